theorem dX19_tellAdvert_0 : decode cX19_tellAdvert 0 = .ok (.aload_n 1, 1) := by decide +kernel
theorem dX19_tellAdvert_1 : decode cX19_tellAdvert 1 = .ok (.getfield 276, 3) := by decide +kernel
theorem dX19_tellAdvert_4 : decode cX19_tellAdvert 4 = .ok (.aload_n 2, 1) := by decide +kernel
theorem dX19_tellAdvert_5 : decode cX19_tellAdvert 5 = .ok (.getfield 464, 3) := by decide +kernel
theorem dX19_tellAdvert_8 : decode cX19_tellAdvert 8 = .ok (.aaload, 1) := by decide +kernel
theorem dX19_tellAdvert_9 : decode cX19_tellAdvert 9 = .ok (.astore 4, 2) := by decide +kernel
theorem dX19_tellAdvert_11 : decode cX19_tellAdvert 11 = .ok (.aload_n 0, 1) := by decide +kernel
theorem dX19_tellAdvert_12 : decode cX19_tellAdvert 12 = .ok (.getfield 114, 3) := by decide +kernel
theorem dX19_tellAdvert_15 : decode cX19_tellAdvert 15 = .ok (.aload_n 2, 1) := by decide +kernel
theorem dX19_tellAdvert_16 : decode cX19_tellAdvert 16 = .ok (.getfield 467, 3) := by decide +kernel
theorem dX19_tellAdvert_19 : decode cX19_tellAdvert 19 = .ok (.aaload, 1) := by decide +kernel
theorem dX19_tellAdvert_20 : decode cX19_tellAdvert 20 = .ok (.aload 4, 2) := by decide +kernel
theorem dX19_tellAdvert_22 : decode cX19_tellAdvert 22 = .ok (.getfield 149, 3) := by decide +kernel
theorem dX19_tellAdvert_25 : decode cX19_tellAdvert 25 = .ok (.invokestatic 311, 3) := by decide +kernel
theorem dX19_tellAdvert_28 : decode cX19_tellAdvert 28 = .ok (.istore 5, 2) := by decide +kernel
theorem dX19_tellAdvert_30 : decode cX19_tellAdvert 30 = .ok (.aload_n 0, 1) := by decide +kernel
theorem dX19_tellAdvert_31 : decode cX19_tellAdvert 31 = .ok (.aload_n 1, 1) := by decide +kernel
theorem dX19_tellAdvert_32 : decode cX19_tellAdvert 32 = .ok (.iconst 3, 1) := by decide +kernel
theorem dX19_tellAdvert_33 : decode cX19_tellAdvert 33 = .ok (.bipush 12, 2) := by decide +kernel
theorem dX19_tellAdvert_35 : decode cX19_tellAdvert 35 = .ok (.bipush 6, 2) := by decide +kernel
theorem dX19_tellAdvert_37 : decode cX19_tellAdvert 37 = .ok (.aload_n 0, 1) := by decide +kernel
theorem dX19_tellAdvert_38 : decode cX19_tellAdvert 38 = .ok (.iload_n 3, 1) := by decide +kernel
theorem dX19_tellAdvert_39 : decode cX19_tellAdvert 39 = .ok (.iconst 2, 1) := by decide +kernel
theorem dX19_tellAdvert_40 : decode cX19_tellAdvert 40 = .ok (.invokevirtual 74, 3) := by decide +kernel
theorem dX19_tellAdvert_43 : decode cX19_tellAdvert 43 = .ok (.aload_n 0, 1) := by decide +kernel
theorem dX19_tellAdvert_44 : decode cX19_tellAdvert 44 = .ok (.iload_n 3, 1) := by decide +kernel
theorem dX19_tellAdvert_45 : decode cX19_tellAdvert 45 = .ok (.iconst 3, 1) := by decide +kernel
theorem dX19_tellAdvert_46 : decode cX19_tellAdvert 46 = .ok (.invokevirtual 74, 3) := by decide +kernel
theorem dX19_tellAdvert_49 : decode cX19_tellAdvert 49 = .ok (.iadd, 1) := by decide +kernel
theorem dX19_tellAdvert_50 : decode cX19_tellAdvert 50 = .ok (.imul, 1) := by decide +kernel
theorem dX19_tellAdvert_51 : decode cX19_tellAdvert 51 = .ok (.iadd, 1) := by decide +kernel
theorem dX19_tellAdvert_52 : decode cX19_tellAdvert 52 = .ok (.aload 4, 2) := by decide +kernel
theorem dX19_tellAdvert_54 : decode cX19_tellAdvert 54 = .ok (.invokevirtual 280, 3) := by decide +kernel
theorem dX19_tellAdvert_57 : decode cX19_tellAdvert 57 = .ok (.aload 4, 2) := by decide +kernel
theorem dX19_tellAdvert_59 : decode cX19_tellAdvert 59 = .ok (.getfield 149, 3) := by decide +kernel
theorem dX19_tellAdvert_62 : decode cX19_tellAdvert 62 = .ok (.getfield 295, 3) := by decide +kernel
theorem dX19_tellAdvert_65 : decode cX19_tellAdvert 65 = .ok (.iload 5, 2) := by decide +kernel
theorem dX19_tellAdvert_67 : decode cX19_tellAdvert 67 = .ok (.aaload, 1) := by decide +kernel
theorem dX19_tellAdvert_68 : decode cX19_tellAdvert 68 = .ok (.invokevirtual 280, 3) := by decide +kernel
theorem dX19_tellAdvert_71 : decode cX19_tellAdvert 71 = .ok (.invokevirtual 329, 3) := by decide +kernel
theorem dX19_tellAdvert_74 : decode cX19_tellAdvert 74 = .ok (.istore 6, 2) := by decide +kernel
theorem dX19_tellAdvert_76 : decode cX19_tellAdvert 76 = .ok (.aload_n 0, 1) := by decide +kernel
theorem dX19_tellAdvert_77 : decode cX19_tellAdvert 77 = .ok (.iload 6, 2) := by decide +kernel
theorem dX19_tellAdvert_79 : decode cX19_tellAdvert 79 = .ok (.bipush 12, 2) := by decide +kernel
theorem dX19_tellAdvert_81 : decode cX19_tellAdvert 81 = .ok (.aload_n 1, 1) := by decide +kernel
theorem dX19_tellAdvert_82 : decode cX19_tellAdvert 82 = .ok (.getfield 310, 3) := by decide +kernel
theorem dX19_tellAdvert_85 : decode cX19_tellAdvert 85 = .ok (.invokevirtual 14, 3) := by decide +kernel
theorem dX19_tellAdvert_88 : decode cX19_tellAdvert 88 = .ok (.aload_n 0, 1) := by decide +kernel
theorem dX19_tellAdvert_89 : decode cX19_tellAdvert 89 = .ok (.iload 6, 2) := by decide +kernel
theorem dX19_tellAdvert_91 : decode cX19_tellAdvert 91 = .ok (.bipush 11, 2) := by decide +kernel
theorem dX19_tellAdvert_93 : decode cX19_tellAdvert 93 = .ok (.iload_n 3, 1) := by decide +kernel
theorem dX19_tellAdvert_94 : decode cX19_tellAdvert 94 = .ok (.invokevirtual 14, 3) := by decide +kernel
theorem dX19_tellAdvert_97 : decode cX19_tellAdvert 97 = .ok (.aload_n 0, 1) := by decide +kernel
theorem dX19_tellAdvert_98 : decode cX19_tellAdvert 98 = .ok (.getfield 25, 3) := by decide +kernel
theorem dX19_tellAdvert_101 : decode cX19_tellAdvert 101 = .ok (.iload_n 3, 1) := by decide +kernel
theorem dX19_tellAdvert_102 : decode cX19_tellAdvert 102 = .ok (.dup2, 1) := by decide +kernel
theorem dX19_tellAdvert_103 : decode cX19_tellAdvert 103 = .ok (.iaload, 1) := by decide +kernel
theorem dX19_tellAdvert_104 : decode cX19_tellAdvert 104 = .ok (.iconst 1, 1) := by decide +kernel
theorem dX19_tellAdvert_105 : decode cX19_tellAdvert 105 = .ok (.iadd, 1) := by decide +kernel
theorem dX19_tellAdvert_106 : decode cX19_tellAdvert 106 = .ok (.iastore, 1) := by decide +kernel
theorem dX19_tellAdvert_107 : decode cX19_tellAdvert 107 = .ok (.aload_n 0, 1) := by decide +kernel
theorem dX19_tellAdvert_108 : decode cX19_tellAdvert 108 = .ok (.aload 4, 2) := by decide +kernel
theorem dX19_tellAdvert_110 : decode cX19_tellAdvert 110 = .ok (.iload 5, 2) := by decide +kernel
theorem dX19_tellAdvert_112 : decode cX19_tellAdvert 112 = .ok (.iload 6, 2) := by decide +kernel
theorem dX19_tellAdvert_114 : decode cX19_tellAdvert 114 = .ok (.invokevirtual 289, 3) := by decide +kernel
theorem dX19_tellAdvert_117 : decode cX19_tellAdvert 117 = .ok (.aload_n 0, 1) := by decide +kernel
theorem dX19_tellAdvert_118 : decode cX19_tellAdvert 118 = .ok (.iload 6, 2) := by decide +kernel
theorem dX19_tellAdvert_120 : decode cX19_tellAdvert 120 = .ok (.invokevirtual 204, 3) := by decide +kernel
theorem dX19_tellAdvert_123 : decode cX19_tellAdvert 123 = .ok (.return_, 1) := by decide +kernel
theorem dX19_leastSums_0 : decode cX19_leastSums 0 = .ok (.iconst 0, 1) := by decide +kernel
theorem dX19_leastSums_1 : decode cX19_leastSums 1 = .ok (.istore_n 2, 1) := by decide +kernel
theorem dX19_leastSums_2 : decode cX19_leastSums 2 = .ok (.iload_n 2, 1) := by decide +kernel
theorem dX19_leastSums_3 : decode cX19_leastSums 3 = .ok (.sipush 256, 3) := by decide +kernel
theorem dX19_leastSums_6 : decode cX19_leastSums 6 = .ok (.if_icmp .ge 33, 3) := by decide +kernel
theorem dX19_leastSums_9 : decode cX19_leastSums 9 = .ok (.aload_n 0, 1) := by decide +kernel
theorem dX19_leastSums_10 : decode cX19_leastSums 10 = .ok (.getfield 130, 3) := by decide +kernel
theorem dX19_leastSums_13 : decode cX19_leastSums 13 = .ok (.iload_n 2, 1) := by decide +kernel
theorem dX19_leastSums_14 : decode cX19_leastSums 14 = .ok (.iload_n 2, 1) := by decide +kernel
theorem dX19_leastSums_15 : decode cX19_leastSums 15 = .ok (.bipush 16, 2) := by decide +kernel
theorem dX19_leastSums_17 : decode cX19_leastSums 17 = .ok (.idiv, 1) := by decide +kernel
theorem dX19_leastSums_18 : decode cX19_leastSums 18 = .ok (.iload_n 2, 1) := by decide +kernel
theorem dX19_leastSums_19 : decode cX19_leastSums 19 = .ok (.bipush 16, 2) := by decide +kernel
theorem dX19_leastSums_21 : decode cX19_leastSums 21 = .ok (.irem, 1) := by decide +kernel
theorem dX19_leastSums_22 : decode cX19_leastSums 22 = .ok (.if_icmp .ne 7, 3) := by decide +kernel
theorem dX19_leastSums_25 : decode cX19_leastSums 25 = .ok (.iconst 0, 1) := by decide +kernel
theorem dX19_leastSums_26 : decode cX19_leastSums 26 = .ok (.goto 6, 3) := by decide +kernel
theorem dX19_leastSums_29 : decode cX19_leastSums 29 = .ok (.ldc_w 547, 3) := by decide +kernel
theorem dX19_leastSums_32 : decode cX19_leastSums 32 = .ok (.iastore, 1) := by decide +kernel
theorem dX19_leastSums_33 : decode cX19_leastSums 33 = .ok (.iinc 2 1, 3) := by decide +kernel
theorem dX19_leastSums_36 : decode cX19_leastSums 36 = .ok (.goto (-34), 3) := by decide +kernel
theorem dX19_leastSums_39 : decode cX19_leastSums 39 = .ok (.iconst 0, 1) := by decide +kernel
theorem dX19_leastSums_40 : decode cX19_leastSums 40 = .ok (.istore_n 2, 1) := by decide +kernel
theorem dX19_leastSums_41 : decode cX19_leastSums 41 = .ok (.iload_n 2, 1) := by decide +kernel
theorem dX19_leastSums_42 : decode cX19_leastSums 42 = .ok (.bipush 16, 2) := by decide +kernel
theorem dX19_leastSums_44 : decode cX19_leastSums 44 = .ok (.if_icmp .ge 127, 3) := by decide +kernel
theorem dX19_leastSums_47 : decode cX19_leastSums 47 = .ok (.aload_n 1, 1) := by decide +kernel
theorem dX19_leastSums_48 : decode cX19_leastSums 48 = .ok (.getfield 448, 3) := by decide +kernel
theorem dX19_leastSums_51 : decode cX19_leastSums 51 = .ok (.iload_n 2, 1) := by decide +kernel
theorem dX19_leastSums_52 : decode cX19_leastSums 52 = .ok (.iaload, 1) := by decide +kernel
theorem dX19_leastSums_53 : decode cX19_leastSums 53 = .ok (.istore_n 3, 1) := by decide +kernel
theorem dX19_leastSums_54 : decode cX19_leastSums 54 = .ok (.iconst 0, 1) := by decide +kernel
theorem dX19_leastSums_55 : decode cX19_leastSums 55 = .ok (.istore 4, 2) := by decide +kernel
theorem dX19_leastSums_57 : decode cX19_leastSums 57 = .ok (.iload_n 3, 1) := by decide +kernel
theorem dX19_leastSums_58 : decode cX19_leastSums 58 = .ok (.iconst (-1), 1) := by decide +kernel
theorem dX19_leastSums_59 : decode cX19_leastSums 59 = .ok (.if_icmp .eq 106, 3) := by decide +kernel
theorem dX19_leastSums_62 : decode cX19_leastSums 62 = .ok (.iload 4, 2) := by decide +kernel
theorem dX19_leastSums_64 : decode cX19_leastSums 64 = .ok (.aload_n 0, 1) := by decide +kernel
theorem dX19_leastSums_65 : decode cX19_leastSums 65 = .ok (.iload_n 3, 1) := by decide +kernel
theorem dX19_leastSums_66 : decode cX19_leastSums 66 = .ok (.iconst 3, 1) := by decide +kernel
theorem dX19_leastSums_67 : decode cX19_leastSums 67 = .ok (.invokevirtual 74, 3) := by decide +kernel
theorem dX19_leastSums_70 : decode cX19_leastSums 70 = .ok (.if_icmp .ge 95, 3) := by decide +kernel
theorem dX19_leastSums_73 : decode cX19_leastSums 73 = .ok (.aload_n 0, 1) := by decide +kernel
theorem dX19_leastSums_74 : decode cX19_leastSums 74 = .ok (.iload_n 3, 1) := by decide +kernel
theorem dX19_leastSums_75 : decode cX19_leastSums 75 = .ok (.iload 4, 2) := by decide +kernel
theorem dX19_leastSums_77 : decode cX19_leastSums 77 = .ok (.iconst 0, 1) := by decide +kernel
theorem dX19_leastSums_78 : decode cX19_leastSums 78 = .ok (.invokevirtual 81, 3) := by decide +kernel
theorem dX19_leastSums_81 : decode cX19_leastSums 81 = .ok (.istore 5, 2) := by decide +kernel
theorem dX19_leastSums_83 : decode cX19_leastSums 83 = .ok (.aload_n 0, 1) := by decide +kernel
theorem dX19_leastSums_84 : decode cX19_leastSums 84 = .ok (.iload_n 3, 1) := by decide +kernel
theorem dX19_leastSums_85 : decode cX19_leastSums 85 = .ok (.iload 4, 2) := by decide +kernel
theorem dX19_leastSums_87 : decode cX19_leastSums 87 = .ok (.iconst 2, 1) := by decide +kernel
theorem dX19_leastSums_88 : decode cX19_leastSums 88 = .ok (.invokevirtual 81, 3) := by decide +kernel
theorem dX19_leastSums_91 : decode cX19_leastSums 91 = .ok (.istore 6, 2) := by decide +kernel
theorem dX19_leastSums_93 : decode cX19_leastSums 93 = .ok (.aload_n 1, 1) := by decide +kernel
theorem dX19_leastSums_94 : decode cX19_leastSums 94 = .ok (.getfield 448, 3) := by decide +kernel
theorem dX19_leastSums_97 : decode cX19_leastSums 97 = .ok (.iload 5, 2) := by decide +kernel
theorem dX19_leastSums_99 : decode cX19_leastSums 99 = .ok (.iaload, 1) := by decide +kernel
theorem dX19_leastSums_100 : decode cX19_leastSums 100 = .ok (.iconst (-1), 1) := by decide +kernel
theorem dX19_leastSums_101 : decode cX19_leastSums 101 = .ok (.if_icmp .eq 58, 3) := by decide +kernel
theorem dX19_leastSums_104 : decode cX19_leastSums 104 = .ok (.aload_n 0, 1) := by decide +kernel
theorem dX19_leastSums_105 : decode cX19_leastSums 105 = .ok (.aload_n 1, 1) := by decide +kernel
theorem dX19_leastSums_106 : decode cX19_leastSums 106 = .ok (.getfield 448, 3) := by decide +kernel
theorem dX19_leastSums_109 : decode cX19_leastSums 109 = .ok (.iload 5, 2) := by decide +kernel
theorem dX19_leastSums_111 : decode cX19_leastSums 111 = .ok (.iaload, 1) := by decide +kernel
theorem dX19_leastSums_112 : decode cX19_leastSums 112 = .ok (.iload_n 2, 1) := by decide +kernel
theorem dX19_leastSums_113 : decode cX19_leastSums 113 = .ok (.aload_n 0, 1) := by decide +kernel
theorem dX19_leastSums_114 : decode cX19_leastSums 114 = .ok (.iload_n 3, 1) := by decide +kernel
theorem dX19_leastSums_115 : decode cX19_leastSums 115 = .ok (.iload 4, 2) := by decide +kernel
theorem dX19_leastSums_117 : decode cX19_leastSums 117 = .ok (.iconst 1, 1) := by decide +kernel
theorem dX19_leastSums_118 : decode cX19_leastSums 118 = .ok (.invokevirtual 81, 3) := by decide +kernel
theorem dX19_leastSums_121 : decode cX19_leastSums 121 = .ok (.invokevirtual 548, 3) := by decide +kernel
theorem dX19_leastSums_124 : decode cX19_leastSums 124 = .ok (.iconst (-1), 1) := by decide +kernel
theorem dX19_leastSums_125 : decode cX19_leastSums 125 = .ok (.if_icmp .eq 34, 3) := by decide +kernel
theorem dX19_leastSums_128 : decode cX19_leastSums 128 = .ok (.iload 6, 2) := by decide +kernel
theorem dX19_leastSums_130 : decode cX19_leastSums 130 = .ok (.aload_n 0, 1) := by decide +kernel
theorem dX19_leastSums_131 : decode cX19_leastSums 131 = .ok (.getfield 130, 3) := by decide +kernel
theorem dX19_leastSums_134 : decode cX19_leastSums 134 = .ok (.bipush 16, 2) := by decide +kernel
theorem dX19_leastSums_136 : decode cX19_leastSums 136 = .ok (.iload_n 2, 1) := by decide +kernel
theorem dX19_leastSums_137 : decode cX19_leastSums 137 = .ok (.imul, 1) := by decide +kernel
theorem dX19_leastSums_138 : decode cX19_leastSums 138 = .ok (.iload 5, 2) := by decide +kernel
theorem dX19_leastSums_140 : decode cX19_leastSums 140 = .ok (.iadd, 1) := by decide +kernel
theorem dX19_leastSums_141 : decode cX19_leastSums 141 = .ok (.iaload, 1) := by decide +kernel
theorem dX19_leastSums_142 : decode cX19_leastSums 142 = .ok (.if_icmp .ge 17, 3) := by decide +kernel
theorem dX19_leastSums_145 : decode cX19_leastSums 145 = .ok (.aload_n 0, 1) := by decide +kernel
theorem dX19_leastSums_146 : decode cX19_leastSums 146 = .ok (.getfield 130, 3) := by decide +kernel
theorem dX19_leastSums_149 : decode cX19_leastSums 149 = .ok (.bipush 16, 2) := by decide +kernel
theorem dX19_leastSums_151 : decode cX19_leastSums 151 = .ok (.iload_n 2, 1) := by decide +kernel
theorem dX19_leastSums_152 : decode cX19_leastSums 152 = .ok (.imul, 1) := by decide +kernel
theorem dX19_leastSums_153 : decode cX19_leastSums 153 = .ok (.iload 5, 2) := by decide +kernel
theorem dX19_leastSums_155 : decode cX19_leastSums 155 = .ok (.iadd, 1) := by decide +kernel
theorem dX19_leastSums_156 : decode cX19_leastSums 156 = .ok (.iload 6, 2) := by decide +kernel
theorem dX19_leastSums_158 : decode cX19_leastSums 158 = .ok (.iastore, 1) := by decide +kernel
theorem dX19_leastSums_159 : decode cX19_leastSums 159 = .ok (.iinc 4 1, 3) := by decide +kernel
theorem dX19_leastSums_162 : decode cX19_leastSums 162 = .ok (.goto (-105), 3) := by decide +kernel
theorem dX19_leastSums_165 : decode cX19_leastSums 165 = .ok (.iinc 2 1, 3) := by decide +kernel
theorem dX19_leastSums_168 : decode cX19_leastSums 168 = .ok (.goto (-127), 3) := by decide +kernel
theorem dX19_leastSums_171 : decode cX19_leastSums 171 = .ok (.iconst 0, 1) := by decide +kernel
theorem dX19_leastSums_172 : decode cX19_leastSums 172 = .ok (.istore_n 2, 1) := by decide +kernel
theorem dX19_leastSums_173 : decode cX19_leastSums 173 = .ok (.iload_n 2, 1) := by decide +kernel
theorem dX19_leastSums_174 : decode cX19_leastSums 174 = .ok (.bipush 16, 2) := by decide +kernel
theorem dX19_leastSums_176 : decode cX19_leastSums 176 = .ok (.if_icmp .ge 111, 3) := by decide +kernel
theorem dX19_leastSums_179 : decode cX19_leastSums 179 = .ok (.iconst 0, 1) := by decide +kernel
theorem dX19_leastSums_180 : decode cX19_leastSums 180 = .ok (.istore_n 3, 1) := by decide +kernel
theorem dX19_leastSums_181 : decode cX19_leastSums 181 = .ok (.iload_n 3, 1) := by decide +kernel
theorem dX19_leastSums_182 : decode cX19_leastSums 182 = .ok (.bipush 16, 2) := by decide +kernel
theorem dX19_leastSums_184 : decode cX19_leastSums 184 = .ok (.if_icmp .ge 97, 3) := by decide +kernel
theorem dX19_leastSums_187 : decode cX19_leastSums 187 = .ok (.iconst 0, 1) := by decide +kernel
theorem dX19_leastSums_188 : decode cX19_leastSums 188 = .ok (.istore 4, 2) := by decide +kernel
theorem dX19_leastSums_190 : decode cX19_leastSums 190 = .ok (.iload 4, 2) := by decide +kernel
theorem dX19_leastSums_192 : decode cX19_leastSums 192 = .ok (.bipush 16, 2) := by decide +kernel
theorem dX19_leastSums_194 : decode cX19_leastSums 194 = .ok (.if_icmp .ge 81, 3) := by decide +kernel
theorem dX19_leastSums_197 : decode cX19_leastSums 197 = .ok (.aload_n 0, 1) := by decide +kernel
theorem dX19_leastSums_198 : decode cX19_leastSums 198 = .ok (.getfield 130, 3) := by decide +kernel
theorem dX19_leastSums_201 : decode cX19_leastSums 201 = .ok (.bipush 16, 2) := by decide +kernel
theorem dX19_leastSums_203 : decode cX19_leastSums 203 = .ok (.iload_n 3, 1) := by decide +kernel
theorem dX19_leastSums_204 : decode cX19_leastSums 204 = .ok (.imul, 1) := by decide +kernel
theorem dX19_leastSums_205 : decode cX19_leastSums 205 = .ok (.iload_n 2, 1) := by decide +kernel
theorem dX19_leastSums_206 : decode cX19_leastSums 206 = .ok (.iadd, 1) := by decide +kernel
theorem dX19_leastSums_207 : decode cX19_leastSums 207 = .ok (.iaload, 1) := by decide +kernel
theorem dX19_leastSums_208 : decode cX19_leastSums 208 = .ok (.aload_n 0, 1) := by decide +kernel
theorem dX19_leastSums_209 : decode cX19_leastSums 209 = .ok (.getfield 130, 3) := by decide +kernel
theorem dX19_leastSums_212 : decode cX19_leastSums 212 = .ok (.bipush 16, 2) := by decide +kernel
theorem dX19_leastSums_214 : decode cX19_leastSums 214 = .ok (.iload_n 2, 1) := by decide +kernel
theorem dX19_leastSums_215 : decode cX19_leastSums 215 = .ok (.imul, 1) := by decide +kernel
theorem dX19_leastSums_216 : decode cX19_leastSums 216 = .ok (.iload 4, 2) := by decide +kernel
theorem dX19_leastSums_218 : decode cX19_leastSums 218 = .ok (.iadd, 1) := by decide +kernel
theorem dX19_leastSums_219 : decode cX19_leastSums 219 = .ok (.iaload, 1) := by decide +kernel
theorem dX19_leastSums_220 : decode cX19_leastSums 220 = .ok (.iadd, 1) := by decide +kernel
theorem dX19_leastSums_221 : decode cX19_leastSums 221 = .ok (.istore 5, 2) := by decide +kernel
theorem dX19_leastSums_223 : decode cX19_leastSums 223 = .ok (.aload_n 0, 1) := by decide +kernel
theorem dX19_leastSums_224 : decode cX19_leastSums 224 = .ok (.getfield 130, 3) := by decide +kernel
theorem dX19_leastSums_227 : decode cX19_leastSums 227 = .ok (.bipush 16, 2) := by decide +kernel
theorem dX19_leastSums_229 : decode cX19_leastSums 229 = .ok (.iload_n 3, 1) := by decide +kernel
theorem dX19_leastSums_230 : decode cX19_leastSums 230 = .ok (.imul, 1) := by decide +kernel
theorem dX19_leastSums_231 : decode cX19_leastSums 231 = .ok (.iload 4, 2) := by decide +kernel
theorem dX19_leastSums_233 : decode cX19_leastSums 233 = .ok (.iadd, 1) := by decide +kernel
theorem dX19_leastSums_234 : decode cX19_leastSums 234 = .ok (.iload 5, 2) := by decide +kernel
theorem dX19_leastSums_236 : decode cX19_leastSums 236 = .ok (.aload_n 0, 1) := by decide +kernel
theorem dX19_leastSums_237 : decode cX19_leastSums 237 = .ok (.getfield 130, 3) := by decide +kernel
theorem dX19_leastSums_240 : decode cX19_leastSums 240 = .ok (.bipush 16, 2) := by decide +kernel
theorem dX19_leastSums_242 : decode cX19_leastSums 242 = .ok (.iload_n 3, 1) := by decide +kernel
theorem dX19_leastSums_243 : decode cX19_leastSums 243 = .ok (.imul, 1) := by decide +kernel
theorem dX19_leastSums_244 : decode cX19_leastSums 244 = .ok (.iload 4, 2) := by decide +kernel
theorem dX19_leastSums_246 : decode cX19_leastSums 246 = .ok (.iadd, 1) := by decide +kernel
theorem dX19_leastSums_247 : decode cX19_leastSums 247 = .ok (.iaload, 1) := by decide +kernel
theorem dX19_leastSums_248 : decode cX19_leastSums 248 = .ok (.if_icmp .ge 8, 3) := by decide +kernel
theorem dX19_leastSums_251 : decode cX19_leastSums 251 = .ok (.iload 5, 2) := by decide +kernel
theorem dX19_leastSums_253 : decode cX19_leastSums 253 = .ok (.goto 15, 3) := by decide +kernel
theorem dX19_leastSums_256 : decode cX19_leastSums 256 = .ok (.aload_n 0, 1) := by decide +kernel
theorem dX19_leastSums_257 : decode cX19_leastSums 257 = .ok (.getfield 130, 3) := by decide +kernel
theorem dX19_leastSums_260 : decode cX19_leastSums 260 = .ok (.bipush 16, 2) := by decide +kernel
theorem dX19_leastSums_262 : decode cX19_leastSums 262 = .ok (.iload_n 3, 1) := by decide +kernel
theorem dX19_leastSums_263 : decode cX19_leastSums 263 = .ok (.imul, 1) := by decide +kernel
theorem dX19_leastSums_264 : decode cX19_leastSums 264 = .ok (.iload 4, 2) := by decide +kernel
theorem dX19_leastSums_266 : decode cX19_leastSums 266 = .ok (.iadd, 1) := by decide +kernel
theorem dX19_leastSums_267 : decode cX19_leastSums 267 = .ok (.iaload, 1) := by decide +kernel
theorem dX19_leastSums_268 : decode cX19_leastSums 268 = .ok (.iastore, 1) := by decide +kernel
theorem dX19_leastSums_269 : decode cX19_leastSums 269 = .ok (.iinc 4 1, 3) := by decide +kernel
theorem dX19_leastSums_272 : decode cX19_leastSums 272 = .ok (.goto (-82), 3) := by decide +kernel
theorem dX19_leastSums_275 : decode cX19_leastSums 275 = .ok (.iinc 3 1, 3) := by decide +kernel
theorem dX19_leastSums_278 : decode cX19_leastSums 278 = .ok (.goto (-97), 3) := by decide +kernel
theorem dX19_leastSums_281 : decode cX19_leastSums 281 = .ok (.iinc 2 1, 3) := by decide +kernel
theorem dX19_leastSums_284 : decode cX19_leastSums 284 = .ok (.goto (-111), 3) := by decide +kernel
theorem dX19_leastSums_287 : decode cX19_leastSums 287 = .ok (.return_, 1) := by decide +kernel
theorem dX19_ways_0 : decode cX19_ways 0 = .ok (.aload_n 1, 1) := by decide +kernel
theorem dX19_ways_1 : decode cX19_ways 1 = .ok (.getfield 489, 3) := by decide +kernel
theorem dX19_ways_4 : decode cX19_ways 4 = .ok (.ifCond .ne 4, 3) := by decide +kernel
theorem dX19_ways_7 : decode cX19_ways 7 = .ok (.return_, 1) := by decide +kernel
theorem dX19_ways_8 : decode cX19_ways 8 = .ok (.aload_n 1, 1) := by decide +kernel
theorem dX19_ways_9 : decode cX19_ways 9 = .ok (.iconst 0, 1) := by decide +kernel
theorem dX19_ways_10 : decode cX19_ways 10 = .ok (.putfield 489, 3) := by decide +kernel
theorem dX19_ways_13 : decode cX19_ways 13 = .ok (.aload_n 0, 1) := by decide +kernel
theorem dX19_ways_14 : decode cX19_ways 14 = .ok (.aload_n 1, 1) := by decide +kernel
theorem dX19_ways_15 : decode cX19_ways 15 = .ok (.invokevirtual 551, 3) := by decide +kernel
theorem dX19_ways_18 : decode cX19_ways 18 = .ok (.iconst 0, 1) := by decide +kernel
theorem dX19_ways_19 : decode cX19_ways 19 = .ok (.istore_n 2, 1) := by decide +kernel
theorem dX19_ways_20 : decode cX19_ways 20 = .ok (.iload_n 2, 1) := by decide +kernel
theorem dX19_ways_21 : decode cX19_ways 21 = .ok (.bipush 24, 2) := by decide +kernel
theorem dX19_ways_23 : decode cX19_ways 23 = .ok (.if_icmp .ge 132, 3) := by decide +kernel
theorem dX19_ways_26 : decode cX19_ways 26 = .ok (.aload_n 1, 1) := by decide +kernel
theorem dX19_ways_27 : decode cX19_ways 27 = .ok (.getfield 301, 3) := by decide +kernel
theorem dX19_ways_30 : decode cX19_ways 30 = .ok (.iload_n 2, 1) := by decide +kernel
theorem dX19_ways_31 : decode cX19_ways 31 = .ok (.iconst (-1), 1) := by decide +kernel
theorem dX19_ways_32 : decode cX19_ways 32 = .ok (.iastore, 1) := by decide +kernel
theorem dX19_ways_33 : decode cX19_ways 33 = .ok (.aload_n 1, 1) := by decide +kernel
theorem dX19_ways_34 : decode cX19_ways 34 = .ok (.getfield 307, 3) := by decide +kernel
theorem dX19_ways_37 : decode cX19_ways 37 = .ok (.iload_n 2, 1) := by decide +kernel
theorem dX19_ways_38 : decode cX19_ways 38 = .ok (.iconst (-1), 1) := by decide +kernel
theorem dX19_ways_39 : decode cX19_ways 39 = .ok (.iastore, 1) := by decide +kernel
theorem dX19_ways_40 : decode cX19_ways 40 = .ok (.aload_n 1, 1) := by decide +kernel
theorem dX19_ways_41 : decode cX19_ways 41 = .ok (.getfield 304, 3) := by decide +kernel
theorem dX19_ways_44 : decode cX19_ways 44 = .ok (.iload_n 2, 1) := by decide +kernel
theorem dX19_ways_45 : decode cX19_ways 45 = .ok (.iconst (-1), 1) := by decide +kernel
theorem dX19_ways_46 : decode cX19_ways 46 = .ok (.iastore, 1) := by decide +kernel
theorem dX19_ways_47 : decode cX19_ways 47 = .ok (.aconst_null, 1) := by decide +kernel
theorem dX19_ways_48 : decode cX19_ways 48 = .ok (.astore_n 3, 1) := by decide +kernel
theorem dX19_ways_49 : decode cX19_ways 49 = .ok (.iconst 0, 1) := by decide +kernel
theorem dX19_ways_50 : decode cX19_ways 50 = .ok (.istore 4, 2) := by decide +kernel
theorem dX19_ways_52 : decode cX19_ways 52 = .ok (.iload 4, 2) := by decide +kernel
theorem dX19_ways_54 : decode cX19_ways 54 = .ok (.aload_n 1, 1) := by decide +kernel
theorem dX19_ways_55 : decode cX19_ways 55 = .ok (.getfield 273, 3) := by decide +kernel
theorem dX19_ways_58 : decode cX19_ways 58 = .ok (.if_icmp .ge 51, 3) := by decide +kernel
theorem dX19_ways_61 : decode cX19_ways 61 = .ok (.aload_n 1, 1) := by decide +kernel
theorem dX19_ways_62 : decode cX19_ways 62 = .ok (.getfield 276, 3) := by decide +kernel
theorem dX19_ways_65 : decode cX19_ways 65 = .ok (.iload 4, 2) := by decide +kernel
theorem dX19_ways_67 : decode cX19_ways 67 = .ok (.aaload, 1) := by decide +kernel
theorem dX19_ways_68 : decode cX19_ways 68 = .ok (.getfield 149, 3) := by decide +kernel
theorem dX19_ways_71 : decode cX19_ways 71 = .ok (.getfield 181, 3) := by decide +kernel
theorem dX19_ways_74 : decode cX19_ways 74 = .ok (.iload_n 2, 1) := by decide +kernel
theorem dX19_ways_75 : decode cX19_ways 75 = .ok (.if_icmp .ne 26, 3) := by decide +kernel
theorem dX19_ways_78 : decode cX19_ways 78 = .ok (.aload_n 1, 1) := by decide +kernel
theorem dX19_ways_79 : decode cX19_ways 79 = .ok (.getfield 276, 3) := by decide +kernel
theorem dX19_ways_82 : decode cX19_ways 82 = .ok (.iload 4, 2) := by decide +kernel
theorem dX19_ways_84 : decode cX19_ways 84 = .ok (.aaload, 1) := by decide +kernel
theorem dX19_ways_85 : decode cX19_ways 85 = .ok (.getfield 479, 3) := by decide +kernel
theorem dX19_ways_88 : decode cX19_ways 88 = .ok (.ifCond .eq 13, 3) := by decide +kernel
theorem dX19_ways_91 : decode cX19_ways 91 = .ok (.aload_n 1, 1) := by decide +kernel
theorem dX19_ways_92 : decode cX19_ways 92 = .ok (.getfield 276, 3) := by decide +kernel
theorem dX19_ways_95 : decode cX19_ways 95 = .ok (.iload 4, 2) := by decide +kernel
theorem dX19_ways_97 : decode cX19_ways 97 = .ok (.aaload, 1) := by decide +kernel
theorem dX19_ways_98 : decode cX19_ways 98 = .ok (.goto 4, 3) := by decide +kernel
theorem dX19_ways_101 : decode cX19_ways 101 = .ok (.aload_n 3, 1) := by decide +kernel
theorem dX19_ways_102 : decode cX19_ways 102 = .ok (.astore_n 3, 1) := by decide +kernel
theorem dX19_ways_103 : decode cX19_ways 103 = .ok (.iinc 4 1, 3) := by decide +kernel
theorem dX19_ways_106 : decode cX19_ways 106 = .ok (.goto (-54), 3) := by decide +kernel
theorem dX19_ways_109 : decode cX19_ways 109 = .ok (.aload_n 3, 1) := by decide +kernel
theorem dX19_ways_110 : decode cX19_ways 110 = .ok (.ifnull 33, 3) := by decide +kernel
theorem dX19_ways_113 : decode cX19_ways 113 = .ok (.aload_n 1, 1) := by decide +kernel
theorem dX19_ways_114 : decode cX19_ways 114 = .ok (.getfield 301, 3) := by decide +kernel
theorem dX19_ways_117 : decode cX19_ways 117 = .ok (.iload_n 2, 1) := by decide +kernel
theorem dX19_ways_118 : decode cX19_ways 118 = .ok (.aload_n 3, 1) := by decide +kernel
theorem dX19_ways_119 : decode cX19_ways 119 = .ok (.getfield 520, 3) := by decide +kernel
theorem dX19_ways_122 : decode cX19_ways 122 = .ok (.iastore, 1) := by decide +kernel
theorem dX19_ways_123 : decode cX19_ways 123 = .ok (.aload_n 1, 1) := by decide +kernel
theorem dX19_ways_124 : decode cX19_ways 124 = .ok (.getfield 307, 3) := by decide +kernel
theorem dX19_ways_127 : decode cX19_ways 127 = .ok (.iload_n 2, 1) := by decide +kernel
theorem dX19_ways_128 : decode cX19_ways 128 = .ok (.aload_n 1, 1) := by decide +kernel
theorem dX19_ways_129 : decode cX19_ways 129 = .ok (.getfield 310, 3) := by decide +kernel
theorem dX19_ways_132 : decode cX19_ways 132 = .ok (.iastore, 1) := by decide +kernel
theorem dX19_ways_133 : decode cX19_ways 133 = .ok (.aload_n 1, 1) := by decide +kernel
theorem dX19_ways_134 : decode cX19_ways 134 = .ok (.getfield 304, 3) := by decide +kernel
theorem dX19_ways_137 : decode cX19_ways 137 = .ok (.iload_n 2, 1) := by decide +kernel
theorem dX19_ways_138 : decode cX19_ways 138 = .ok (.iload_n 2, 1) := by decide +kernel
theorem dX19_ways_139 : decode cX19_ways 139 = .ok (.iastore, 1) := by decide +kernel
theorem dX19_ways_140 : decode cX19_ways 140 = .ok (.goto 9, 3) := by decide +kernel
theorem dX19_ways_143 : decode cX19_ways 143 = .ok (.aload_n 0, 1) := by decide +kernel
theorem dX19_ways_144 : decode cX19_ways 144 = .ok (.aload_n 1, 1) := by decide +kernel
theorem dX19_ways_145 : decode cX19_ways 145 = .ok (.iload_n 2, 1) := by decide +kernel
theorem dX19_ways_146 : decode cX19_ways 146 = .ok (.invokevirtual 555, 3) := by decide +kernel
theorem dX19_ways_149 : decode cX19_ways 149 = .ok (.iinc 2 1, 3) := by decide +kernel
theorem dX19_ways_152 : decode cX19_ways 152 = .ok (.goto (-132), 3) := by decide +kernel
theorem dX19_ways_155 : decode cX19_ways 155 = .ok (.return_, 1) := by decide +kernel
theorem dX19_farWay_0 : decode cX19_farWay 0 = .ok (.ldc_w 547, 3) := by decide +kernel
theorem dX19_farWay_3 : decode cX19_farWay 3 = .ok (.istore_n 3, 1) := by decide +kernel
theorem dX19_farWay_4 : decode cX19_farWay 4 = .ok (.iconst 0, 1) := by decide +kernel
theorem dX19_farWay_5 : decode cX19_farWay 5 = .ok (.istore 4, 2) := by decide +kernel
theorem dX19_farWay_7 : decode cX19_farWay 7 = .ok (.iload 4, 2) := by decide +kernel
theorem dX19_farWay_9 : decode cX19_farWay 9 = .ok (.bipush 16, 2) := by decide +kernel
theorem dX19_farWay_11 : decode cX19_farWay 11 = .ok (.if_icmp .ge 70, 3) := by decide +kernel
theorem dX19_farWay_14 : decode cX19_farWay 14 = .ok (.aload_n 0, 1) := by decide +kernel
theorem dX19_farWay_15 : decode cX19_farWay 15 = .ok (.aload_n 1, 1) := by decide +kernel
theorem dX19_farWay_16 : decode cX19_farWay 16 = .ok (.getfield 448, 3) := by decide +kernel
theorem dX19_farWay_19 : decode cX19_farWay 19 = .ok (.iload 4, 2) := by decide +kernel
theorem dX19_farWay_21 : decode cX19_farWay 21 = .ok (.iaload, 1) := by decide +kernel
theorem dX19_farWay_22 : decode cX19_farWay 22 = .ok (.iload_n 2, 1) := by decide +kernel
theorem dX19_farWay_23 : decode cX19_farWay 23 = .ok (.invokevirtual 558, 3) := by decide +kernel
theorem dX19_farWay_26 : decode cX19_farWay 26 = .ok (.istore 5, 2) := by decide +kernel
theorem dX19_farWay_28 : decode cX19_farWay 28 = .ok (.iload 5, 2) := by decide +kernel
theorem dX19_farWay_30 : decode cX19_farWay 30 = .ok (.iconst (-1), 1) := by decide +kernel
theorem dX19_farWay_31 : decode cX19_farWay 31 = .ok (.if_icmp .eq 44, 3) := by decide +kernel
theorem dX19_farWay_34 : decode cX19_farWay 34 = .ok (.aload_n 0, 1) := by decide +kernel
theorem dX19_farWay_35 : decode cX19_farWay 35 = .ok (.getfield 130, 3) := by decide +kernel
theorem dX19_farWay_38 : decode cX19_farWay 38 = .ok (.bipush 16, 2) := by decide +kernel
theorem dX19_farWay_40 : decode cX19_farWay 40 = .ok (.aload_n 1, 1) := by decide +kernel
theorem dX19_farWay_41 : decode cX19_farWay 41 = .ok (.getfield 310, 3) := by decide +kernel
theorem dX19_farWay_44 : decode cX19_farWay 44 = .ok (.imul, 1) := by decide +kernel
theorem dX19_farWay_45 : decode cX19_farWay 45 = .ok (.iload 4, 2) := by decide +kernel
theorem dX19_farWay_47 : decode cX19_farWay 47 = .ok (.iadd, 1) := by decide +kernel
theorem dX19_farWay_48 : decode cX19_farWay 48 = .ok (.iaload, 1) := by decide +kernel
theorem dX19_farWay_49 : decode cX19_farWay 49 = .ok (.iload 5, 2) := by decide +kernel
theorem dX19_farWay_51 : decode cX19_farWay 51 = .ok (.iadd, 1) := by decide +kernel
theorem dX19_farWay_52 : decode cX19_farWay 52 = .ok (.iload_n 3, 1) := by decide +kernel
theorem dX19_farWay_53 : decode cX19_farWay 53 = .ok (.if_icmp .ge 22, 3) := by decide +kernel
theorem dX19_farWay_56 : decode cX19_farWay 56 = .ok (.aload_n 0, 1) := by decide +kernel
theorem dX19_farWay_57 : decode cX19_farWay 57 = .ok (.getfield 130, 3) := by decide +kernel
theorem dX19_farWay_60 : decode cX19_farWay 60 = .ok (.bipush 16, 2) := by decide +kernel
theorem dX19_farWay_62 : decode cX19_farWay 62 = .ok (.aload_n 1, 1) := by decide +kernel
theorem dX19_farWay_63 : decode cX19_farWay 63 = .ok (.getfield 310, 3) := by decide +kernel
theorem dX19_farWay_66 : decode cX19_farWay 66 = .ok (.imul, 1) := by decide +kernel
theorem dX19_farWay_67 : decode cX19_farWay 67 = .ok (.iload 4, 2) := by decide +kernel
theorem dX19_farWay_69 : decode cX19_farWay 69 = .ok (.iadd, 1) := by decide +kernel
theorem dX19_farWay_70 : decode cX19_farWay 70 = .ok (.iaload, 1) := by decide +kernel
theorem dX19_farWay_71 : decode cX19_farWay 71 = .ok (.iload 5, 2) := by decide +kernel
theorem dX19_farWay_73 : decode cX19_farWay 73 = .ok (.iadd, 1) := by decide +kernel
theorem dX19_farWay_74 : decode cX19_farWay 74 = .ok (.istore_n 3, 1) := by decide +kernel
theorem dX19_farWay_75 : decode cX19_farWay 75 = .ok (.iinc 4 1, 3) := by decide +kernel
theorem dX19_farWay_78 : decode cX19_farWay 78 = .ok (.goto (-71), 3) := by decide +kernel
theorem dX19_farWay_81 : decode cX19_farWay 81 = .ok (.iload_n 3, 1) := by decide +kernel
theorem dX19_farWay_82 : decode cX19_farWay 82 = .ok (.ldc_w 547, 3) := by decide +kernel
theorem dX19_farWay_85 : decode cX19_farWay 85 = .ok (.if_icmp .eq 21, 3) := by decide +kernel
theorem dX19_farWay_88 : decode cX19_farWay 88 = .ok (.aload_n 0, 1) := by decide +kernel
theorem dX19_farWay_89 : decode cX19_farWay 89 = .ok (.aload_n 1, 1) := by decide +kernel
theorem dX19_farWay_90 : decode cX19_farWay 90 = .ok (.getfield 448, 3) := by decide +kernel
theorem dX19_farWay_93 : decode cX19_farWay 93 = .ok (.aload_n 1, 1) := by decide +kernel
theorem dX19_farWay_94 : decode cX19_farWay 94 = .ok (.getfield 310, 3) := by decide +kernel
theorem dX19_farWay_97 : decode cX19_farWay 97 = .ok (.iaload, 1) := by decide +kernel
theorem dX19_farWay_98 : decode cX19_farWay 98 = .ok (.iload_n 2, 1) := by decide +kernel
theorem dX19_farWay_99 : decode cX19_farWay 99 = .ok (.invokevirtual 558, 3) := by decide +kernel
theorem dX19_farWay_102 : decode cX19_farWay 102 = .ok (.iload_n 3, 1) := by decide +kernel
theorem dX19_farWay_103 : decode cX19_farWay 103 = .ok (.if_icmp .ne 4, 3) := by decide +kernel
theorem dX19_farWay_106 : decode cX19_farWay 106 = .ok (.return_, 1) := by decide +kernel
theorem dX19_farWay_107 : decode cX19_farWay 107 = .ok (.aload_n 1, 1) := by decide +kernel
theorem dX19_farWay_108 : decode cX19_farWay 108 = .ok (.getfield 448, 3) := by decide +kernel
theorem dX19_farWay_111 : decode cX19_farWay 111 = .ok (.aload_n 1, 1) := by decide +kernel
theorem dX19_farWay_112 : decode cX19_farWay 112 = .ok (.getfield 310, 3) := by decide +kernel
theorem dX19_farWay_115 : decode cX19_farWay 115 = .ok (.iaload, 1) := by decide +kernel
theorem dX19_farWay_116 : decode cX19_farWay 116 = .ok (.istore 4, 2) := by decide +kernel
theorem dX19_farWay_118 : decode cX19_farWay 118 = .ok (.iconst 0, 1) := by decide +kernel
theorem dX19_farWay_119 : decode cX19_farWay 119 = .ok (.istore 5, 2) := by decide +kernel
theorem dX19_farWay_121 : decode cX19_farWay 121 = .ok (.iload 5, 2) := by decide +kernel
theorem dX19_farWay_123 : decode cX19_farWay 123 = .ok (.aload_n 0, 1) := by decide +kernel
theorem dX19_farWay_124 : decode cX19_farWay 124 = .ok (.iload 4, 2) := by decide +kernel
theorem dX19_farWay_126 : decode cX19_farWay 126 = .ok (.iconst 3, 1) := by decide +kernel
theorem dX19_farWay_127 : decode cX19_farWay 127 = .ok (.invokevirtual 74, 3) := by decide +kernel
theorem dX19_farWay_130 : decode cX19_farWay 130 = .ok (.if_icmp .ge 193, 3) := by decide +kernel
theorem dX19_farWay_133 : decode cX19_farWay 133 = .ok (.aload_n 1, 1) := by decide +kernel
theorem dX19_farWay_134 : decode cX19_farWay 134 = .ok (.getfield 301, 3) := by decide +kernel
theorem dX19_farWay_137 : decode cX19_farWay 137 = .ok (.iload_n 2, 1) := by decide +kernel
theorem dX19_farWay_138 : decode cX19_farWay 138 = .ok (.iaload, 1) := by decide +kernel
theorem dX19_farWay_139 : decode cX19_farWay 139 = .ok (.iconst (-1), 1) := by decide +kernel
theorem dX19_farWay_140 : decode cX19_farWay 140 = .ok (.if_icmp .ne 183, 3) := by decide +kernel
theorem dX19_farWay_143 : decode cX19_farWay 143 = .ok (.aload_n 0, 1) := by decide +kernel
theorem dX19_farWay_144 : decode cX19_farWay 144 = .ok (.iload 4, 2) := by decide +kernel
theorem dX19_farWay_146 : decode cX19_farWay 146 = .ok (.iload 5, 2) := by decide +kernel
theorem dX19_farWay_148 : decode cX19_farWay 148 = .ok (.iconst 0, 1) := by decide +kernel
theorem dX19_farWay_149 : decode cX19_farWay 149 = .ok (.invokevirtual 81, 3) := by decide +kernel
theorem dX19_farWay_152 : decode cX19_farWay 152 = .ok (.istore 6, 2) := by decide +kernel
theorem dX19_farWay_154 : decode cX19_farWay 154 = .ok (.aload_n 0, 1) := by decide +kernel
theorem dX19_farWay_155 : decode cX19_farWay 155 = .ok (.iload 4, 2) := by decide +kernel
theorem dX19_farWay_157 : decode cX19_farWay 157 = .ok (.iload 5, 2) := by decide +kernel
theorem dX19_farWay_159 : decode cX19_farWay 159 = .ok (.iconst 1, 1) := by decide +kernel
theorem dX19_farWay_160 : decode cX19_farWay 160 = .ok (.invokevirtual 81, 3) := by decide +kernel
theorem dX19_farWay_163 : decode cX19_farWay 163 = .ok (.istore 7, 2) := by decide +kernel
theorem dX19_farWay_165 : decode cX19_farWay 165 = .ok (.aload_n 1, 1) := by decide +kernel
theorem dX19_farWay_166 : decode cX19_farWay 166 = .ok (.getfield 448, 3) := by decide +kernel
theorem dX19_farWay_169 : decode cX19_farWay 169 = .ok (.iload 6, 2) := by decide +kernel
theorem dX19_farWay_171 : decode cX19_farWay 171 = .ok (.iaload, 1) := by decide +kernel
theorem dX19_farWay_172 : decode cX19_farWay 172 = .ok (.iconst (-1), 1) := by decide +kernel
theorem dX19_farWay_173 : decode cX19_farWay 173 = .ok (.if_icmp .eq 28, 3) := by decide +kernel
theorem dX19_farWay_176 : decode cX19_farWay 176 = .ok (.aload_n 0, 1) := by decide +kernel
theorem dX19_farWay_177 : decode cX19_farWay 177 = .ok (.aload_n 1, 1) := by decide +kernel
theorem dX19_farWay_178 : decode cX19_farWay 178 = .ok (.getfield 448, 3) := by decide +kernel
theorem dX19_farWay_181 : decode cX19_farWay 181 = .ok (.iload 6, 2) := by decide +kernel
theorem dX19_farWay_183 : decode cX19_farWay 183 = .ok (.iaload, 1) := by decide +kernel
theorem dX19_farWay_184 : decode cX19_farWay 184 = .ok (.aload_n 1, 1) := by decide +kernel
theorem dX19_farWay_185 : decode cX19_farWay 185 = .ok (.getfield 310, 3) := by decide +kernel
theorem dX19_farWay_188 : decode cX19_farWay 188 = .ok (.iload 7, 2) := by decide +kernel
theorem dX19_farWay_190 : decode cX19_farWay 190 = .ok (.invokevirtual 548, 3) := by decide +kernel
theorem dX19_farWay_193 : decode cX19_farWay 193 = .ok (.iconst (-1), 1) := by decide +kernel
theorem dX19_farWay_194 : decode cX19_farWay 194 = .ok (.if_icmp .eq 7, 3) := by decide +kernel
theorem dX19_farWay_197 : decode cX19_farWay 197 = .ok (.iconst 1, 1) := by decide +kernel
theorem dX19_farWay_198 : decode cX19_farWay 198 = .ok (.goto 4, 3) := by decide +kernel
theorem dX19_farWay_201 : decode cX19_farWay 201 = .ok (.iconst 0, 1) := by decide +kernel
theorem dX19_farWay_202 : decode cX19_farWay 202 = .ok (.istore 8, 2) := by decide +kernel
theorem dX19_farWay_204 : decode cX19_farWay 204 = .ok (.iconst 0, 1) := by decide +kernel
theorem dX19_farWay_205 : decode cX19_farWay 205 = .ok (.istore 9, 2) := by decide +kernel
theorem dX19_farWay_207 : decode cX19_farWay 207 = .ok (.iload 8, 2) := by decide +kernel
theorem dX19_farWay_209 : decode cX19_farWay 209 = .ok (.ifCond .eq 108, 3) := by decide +kernel
theorem dX19_farWay_212 : decode cX19_farWay 212 = .ok (.iload 9, 2) := by decide +kernel
theorem dX19_farWay_214 : decode cX19_farWay 214 = .ok (.bipush 16, 2) := by decide +kernel
theorem dX19_farWay_216 : decode cX19_farWay 216 = .ok (.if_icmp .ge 101, 3) := by decide +kernel
theorem dX19_farWay_219 : decode cX19_farWay 219 = .ok (.aload_n 1, 1) := by decide +kernel
theorem dX19_farWay_220 : decode cX19_farWay 220 = .ok (.getfield 301, 3) := by decide +kernel
theorem dX19_farWay_223 : decode cX19_farWay 223 = .ok (.iload_n 2, 1) := by decide +kernel
theorem dX19_farWay_224 : decode cX19_farWay 224 = .ok (.iaload, 1) := by decide +kernel
theorem dX19_farWay_225 : decode cX19_farWay 225 = .ok (.iconst (-1), 1) := by decide +kernel
theorem dX19_farWay_226 : decode cX19_farWay 226 = .ok (.if_icmp .ne 91, 3) := by decide +kernel
theorem dX19_farWay_229 : decode cX19_farWay 229 = .ok (.aload_n 0, 1) := by decide +kernel
theorem dX19_farWay_230 : decode cX19_farWay 230 = .ok (.aload_n 1, 1) := by decide +kernel
theorem dX19_farWay_231 : decode cX19_farWay 231 = .ok (.getfield 448, 3) := by decide +kernel
theorem dX19_farWay_234 : decode cX19_farWay 234 = .ok (.iload 9, 2) := by decide +kernel
theorem dX19_farWay_236 : decode cX19_farWay 236 = .ok (.iaload, 1) := by decide +kernel
theorem dX19_farWay_237 : decode cX19_farWay 237 = .ok (.iload_n 2, 1) := by decide +kernel
theorem dX19_farWay_238 : decode cX19_farWay 238 = .ok (.invokevirtual 558, 3) := by decide +kernel
theorem dX19_farWay_241 : decode cX19_farWay 241 = .ok (.istore 10, 2) := by decide +kernel
theorem dX19_farWay_243 : decode cX19_farWay 243 = .ok (.iload 10, 2) := by decide +kernel
theorem dX19_farWay_245 : decode cX19_farWay 245 = .ok (.iconst (-1), 1) := by decide +kernel
theorem dX19_farWay_246 : decode cX19_farWay 246 = .ok (.if_icmp .eq 65, 3) := by decide +kernel
theorem dX19_farWay_249 : decode cX19_farWay 249 = .ok (.iload 9, 2) := by decide +kernel
theorem dX19_farWay_251 : decode cX19_farWay 251 = .ok (.aload_n 1, 1) := by decide +kernel
theorem dX19_farWay_252 : decode cX19_farWay 252 = .ok (.getfield 310, 3) := by decide +kernel
theorem dX19_farWay_255 : decode cX19_farWay 255 = .ok (.if_icmp .eq 56, 3) := by decide +kernel
theorem dX19_farWay_258 : decode cX19_farWay 258 = .ok (.aload_n 0, 1) := by decide +kernel
theorem dX19_farWay_259 : decode cX19_farWay 259 = .ok (.iload 4, 2) := by decide +kernel
theorem dX19_farWay_261 : decode cX19_farWay 261 = .ok (.iload 5, 2) := by decide +kernel
theorem dX19_farWay_263 : decode cX19_farWay 263 = .ok (.iconst 2, 1) := by decide +kernel
theorem dX19_farWay_264 : decode cX19_farWay 264 = .ok (.invokevirtual 81, 3) := by decide +kernel
theorem dX19_farWay_267 : decode cX19_farWay 267 = .ok (.aload_n 0, 1) := by decide +kernel
theorem dX19_farWay_268 : decode cX19_farWay 268 = .ok (.getfield 130, 3) := by decide +kernel
theorem dX19_farWay_271 : decode cX19_farWay 271 = .ok (.bipush 16, 2) := by decide +kernel
theorem dX19_farWay_273 : decode cX19_farWay 273 = .ok (.iload 6, 2) := by decide +kernel
theorem dX19_farWay_275 : decode cX19_farWay 275 = .ok (.imul, 1) := by decide +kernel
theorem dX19_farWay_276 : decode cX19_farWay 276 = .ok (.iload 9, 2) := by decide +kernel
theorem dX19_farWay_278 : decode cX19_farWay 278 = .ok (.iadd, 1) := by decide +kernel
theorem dX19_farWay_279 : decode cX19_farWay 279 = .ok (.iaload, 1) := by decide +kernel
theorem dX19_farWay_280 : decode cX19_farWay 280 = .ok (.iadd, 1) := by decide +kernel
theorem dX19_farWay_281 : decode cX19_farWay 281 = .ok (.iload 10, 2) := by decide +kernel
theorem dX19_farWay_283 : decode cX19_farWay 283 = .ok (.iadd, 1) := by decide +kernel
theorem dX19_farWay_284 : decode cX19_farWay 284 = .ok (.iload_n 3, 1) := by decide +kernel
theorem dX19_farWay_285 : decode cX19_farWay 285 = .ok (.if_icmp .ne 26, 3) := by decide +kernel
theorem dX19_farWay_288 : decode cX19_farWay 288 = .ok (.aload_n 1, 1) := by decide +kernel
theorem dX19_farWay_289 : decode cX19_farWay 289 = .ok (.getfield 301, 3) := by decide +kernel
theorem dX19_farWay_292 : decode cX19_farWay 292 = .ok (.iload_n 2, 1) := by decide +kernel
theorem dX19_farWay_293 : decode cX19_farWay 293 = .ok (.iload_n 3, 1) := by decide +kernel
theorem dX19_farWay_294 : decode cX19_farWay 294 = .ok (.iastore, 1) := by decide +kernel
theorem dX19_farWay_295 : decode cX19_farWay 295 = .ok (.aload_n 1, 1) := by decide +kernel
theorem dX19_farWay_296 : decode cX19_farWay 296 = .ok (.getfield 307, 3) := by decide +kernel
theorem dX19_farWay_299 : decode cX19_farWay 299 = .ok (.iload_n 2, 1) := by decide +kernel
theorem dX19_farWay_300 : decode cX19_farWay 300 = .ok (.iload 6, 2) := by decide +kernel
theorem dX19_farWay_302 : decode cX19_farWay 302 = .ok (.iastore, 1) := by decide +kernel
theorem dX19_farWay_303 : decode cX19_farWay 303 = .ok (.aload_n 1, 1) := by decide +kernel
theorem dX19_farWay_304 : decode cX19_farWay 304 = .ok (.getfield 304, 3) := by decide +kernel
theorem dX19_farWay_307 : decode cX19_farWay 307 = .ok (.iload_n 2, 1) := by decide +kernel
theorem dX19_farWay_308 : decode cX19_farWay 308 = .ok (.iload 7, 2) := by decide +kernel
theorem dX19_farWay_310 : decode cX19_farWay 310 = .ok (.iastore, 1) := by decide +kernel
theorem dX19_farWay_311 : decode cX19_farWay 311 = .ok (.iinc 9 1, 3) := by decide +kernel
theorem dX19_farWay_314 : decode cX19_farWay 314 = .ok (.goto (-107), 3) := by decide +kernel
theorem dX19_farWay_317 : decode cX19_farWay 317 = .ok (.iinc 5 1, 3) := by decide +kernel
theorem dX19_farWay_320 : decode cX19_farWay 320 = .ok (.goto (-199), 3) := by decide +kernel
theorem dX19_farWay_323 : decode cX19_farWay 323 = .ok (.return_, 1) := by decide +kernel
theorem dX19_answer_0 : decode cX19_answer 0 = .ok (.aload_n 0, 1) := by decide +kernel
theorem dX19_answer_1 : decode cX19_answer 1 = .ok (.iload_n 2, 1) := by decide +kernel
theorem dX19_answer_2 : decode cX19_answer 2 = .ok (.iconst 4, 1) := by decide +kernel
theorem dX19_answer_3 : decode cX19_answer 3 = .ok (.invokevirtual 61, 3) := by decide +kernel
theorem dX19_answer_6 : decode cX19_answer 6 = .ok (.ifCond .ne 47, 3) := by decide +kernel
theorem dX19_answer_9 : decode cX19_answer 9 = .ok (.aload_n 0, 1) := by decide +kernel
theorem dX19_answer_10 : decode cX19_answer 10 = .ok (.iload_n 2, 1) := by decide +kernel
theorem dX19_answer_11 : decode cX19_answer 11 = .ok (.bipush 8, 2) := by decide +kernel
theorem dX19_answer_13 : decode cX19_answer 13 = .ok (.invokevirtual 61, 3) := by decide +kernel
theorem dX19_answer_16 : decode cX19_answer 16 = .ok (.ifCond .eq 18, 3) := by decide +kernel
theorem dX19_answer_19 : decode cX19_answer 19 = .ok (.aload_n 1, 1) := by decide +kernel
theorem dX19_answer_20 : decode cX19_answer 20 = .ok (.iconst 4, 1) := by decide +kernel
theorem dX19_answer_21 : decode cX19_answer 21 = .ok (.aload_n 0, 1) := by decide +kernel
theorem dX19_answer_22 : decode cX19_answer 22 = .ok (.iload_n 2, 1) := by decide +kernel
theorem dX19_answer_23 : decode cX19_answer 23 = .ok (.iconst 4, 1) := by decide +kernel
theorem dX19_answer_24 : decode cX19_answer 24 = .ok (.invokevirtual 47, 3) := by decide +kernel
theorem dX19_answer_27 : decode cX19_answer 27 = .ok (.iconst 0, 1) := by decide +kernel
theorem dX19_answer_28 : decode cX19_answer 28 = .ok (.invokevirtual 561, 3) := by decide +kernel
theorem dX19_answer_31 : decode cX19_answer 31 = .ok (.goto 22, 3) := by decide +kernel
theorem dX19_answer_34 : decode cX19_answer 34 = .ok (.aload_n 1, 1) := by decide +kernel
theorem dX19_answer_35 : decode cX19_answer 35 = .ok (.bipush 12, 2) := by decide +kernel
theorem dX19_answer_37 : decode cX19_answer 37 = .ok (.iconst 0, 1) := by decide +kernel
theorem dX19_answer_38 : decode cX19_answer 38 = .ok (.aload_n 0, 1) := by decide +kernel
theorem dX19_answer_39 : decode cX19_answer 39 = .ok (.iload_n 2, 1) := by decide +kernel
theorem dX19_answer_40 : decode cX19_answer 40 = .ok (.iconst 3, 1) := by decide +kernel
theorem dX19_answer_41 : decode cX19_answer 41 = .ok (.invokevirtual 47, 3) := by decide +kernel
theorem dX19_answer_44 : decode cX19_answer 44 = .ok (.aload_n 0, 1) := by decide +kernel
theorem dX19_answer_45 : decode cX19_answer 45 = .ok (.iload_n 2, 1) := by decide +kernel
theorem dX19_answer_46 : decode cX19_answer 46 = .ok (.invokevirtual 564, 3) := by decide +kernel
theorem dX19_answer_49 : decode cX19_answer 49 = .ok (.iadd, 1) := by decide +kernel
theorem dX19_answer_50 : decode cX19_answer 50 = .ok (.invokevirtual 561, 3) := by decide +kernel
theorem dX19_answer_53 : decode cX19_answer 53 = .ok (.return_, 1) := by decide +kernel
theorem dX19_takeOpen_0 : decode cX19_takeOpen 0 = .ok (.aload_n 1, 1) := by decide +kernel
theorem dX19_takeOpen_1 : decode cX19_takeOpen 1 = .ok (.iconst 1, 1) := by decide +kernel
theorem dX19_takeOpen_2 : decode cX19_takeOpen 2 = .ok (.putfield 567, 3) := by decide +kernel
theorem dX19_takeOpen_5 : decode cX19_takeOpen 5 = .ok (.aload_n 1, 1) := by decide +kernel
theorem dX19_takeOpen_6 : decode cX19_takeOpen 6 = .ok (.aload_n 0, 1) := by decide +kernel
theorem dX19_takeOpen_7 : decode cX19_takeOpen 7 = .ok (.iload_n 2, 1) := by decide +kernel
theorem dX19_takeOpen_8 : decode cX19_takeOpen 8 = .ok (.iconst 3, 1) := by decide +kernel
theorem dX19_takeOpen_9 : decode cX19_takeOpen 9 = .ok (.invokevirtual 47, 3) := by decide +kernel
theorem dX19_takeOpen_12 : decode cX19_takeOpen 12 = .ok (.iconst 1, 1) := by decide +kernel
theorem dX19_takeOpen_13 : decode cX19_takeOpen 13 = .ok (.iadd, 1) := by decide +kernel
theorem dX19_takeOpen_14 : decode cX19_takeOpen 14 = .ok (.putfield 570, 3) := by decide +kernel
theorem dX19_takeOpen_17 : decode cX19_takeOpen 17 = .ok (.aload_n 1, 1) := by decide +kernel
theorem dX19_takeOpen_18 : decode cX19_takeOpen 18 = .ok (.aload_n 1, 1) := by decide +kernel
theorem dX19_takeOpen_19 : decode cX19_takeOpen 19 = .ok (.getfield 570, 3) := by decide +kernel
theorem dX19_takeOpen_22 : decode cX19_takeOpen 22 = .ok (.putfield 573, 3) := by decide +kernel
theorem dX19_takeOpen_25 : decode cX19_takeOpen 25 = .ok (.aload_n 0, 1) := by decide +kernel
theorem dX19_takeOpen_26 : decode cX19_takeOpen 26 = .ok (.iload_n 2, 1) := by decide +kernel
theorem dX19_takeOpen_27 : decode cX19_takeOpen 27 = .ok (.bipush 6, 2) := by decide +kernel
theorem dX19_takeOpen_29 : decode cX19_takeOpen 29 = .ok (.invokevirtual 47, 3) := by decide +kernel
theorem dX19_takeOpen_32 : decode cX19_takeOpen 32 = .ok (.ifCond .ne 9, 3) := by decide +kernel
theorem dX19_takeOpen_35 : decode cX19_takeOpen 35 = .ok (.sipush 536, 3) := by decide +kernel
theorem dX19_takeOpen_38 : decode cX19_takeOpen 38 = .ok (.goto 10, 3) := by decide +kernel
theorem dX19_takeOpen_41 : decode cX19_takeOpen 41 = .ok (.aload_n 0, 1) := by decide +kernel
theorem dX19_takeOpen_42 : decode cX19_takeOpen 42 = .ok (.iload_n 2, 1) := by decide +kernel
theorem dX19_takeOpen_43 : decode cX19_takeOpen 43 = .ok (.bipush 6, 2) := by decide +kernel
theorem dX19_takeOpen_45 : decode cX19_takeOpen 45 = .ok (.invokevirtual 47, 3) := by decide +kernel
theorem dX19_takeOpen_48 : decode cX19_takeOpen 48 = .ok (.istore_n 3, 1) := by decide +kernel
theorem dX19_takeOpen_49 : decode cX19_takeOpen 49 = .ok (.aload_n 1, 1) := by decide +kernel
theorem dX19_takeOpen_50 : decode cX19_takeOpen 50 = .ok (.aload_n 1, 1) := by decide +kernel
theorem dX19_takeOpen_51 : decode cX19_takeOpen 51 = .ok (.getfield 576, 3) := by decide +kernel
theorem dX19_takeOpen_54 : decode cX19_takeOpen 54 = .ok (.iload_n 3, 1) := by decide +kernel
theorem dX19_takeOpen_55 : decode cX19_takeOpen 55 = .ok (.if_icmp .ge 10, 3) := by decide +kernel
theorem dX19_takeOpen_58 : decode cX19_takeOpen 58 = .ok (.aload_n 1, 1) := by decide +kernel
theorem dX19_takeOpen_59 : decode cX19_takeOpen 59 = .ok (.getfield 576, 3) := by decide +kernel
theorem dX19_takeOpen_62 : decode cX19_takeOpen 62 = .ok (.goto 4, 3) := by decide +kernel
theorem dX19_takeOpen_65 : decode cX19_takeOpen 65 = .ok (.iload_n 3, 1) := by decide +kernel
theorem dX19_takeOpen_66 : decode cX19_takeOpen 66 = .ok (.putfield 579, 3) := by decide +kernel
theorem dX19_takeOpen_69 : decode cX19_takeOpen 69 = .ok (.aload_n 1, 1) := by decide +kernel
theorem dX19_takeOpen_70 : decode cX19_takeOpen 70 = .ok (.aload_n 0, 1) := by decide +kernel
theorem dX19_takeOpen_71 : decode cX19_takeOpen 71 = .ok (.iload_n 2, 1) := by decide +kernel
theorem dX19_takeOpen_72 : decode cX19_takeOpen 72 = .ok (.iconst 5, 1) := by decide +kernel
theorem dX19_takeOpen_73 : decode cX19_takeOpen 73 = .ok (.invokevirtual 47, 3) := by decide +kernel
theorem dX19_takeOpen_76 : decode cX19_takeOpen 76 = .ok (.putfield 582, 3) := by decide +kernel
theorem dX19_takeOpen_79 : decode cX19_takeOpen 79 = .ok (.aload_n 1, 1) := by decide +kernel
theorem dX19_takeOpen_80 : decode cX19_takeOpen 80 = .ok (.aload_n 0, 1) := by decide +kernel
theorem dX19_takeOpen_81 : decode cX19_takeOpen 81 = .ok (.iload_n 2, 1) := by decide +kernel
theorem dX19_takeOpen_82 : decode cX19_takeOpen 82 = .ok (.iconst 3, 1) := by decide +kernel
theorem dX19_takeOpen_83 : decode cX19_takeOpen 83 = .ok (.invokevirtual 47, 3) := by decide +kernel
theorem dX19_takeOpen_86 : decode cX19_takeOpen 86 = .ok (.putfield 585, 3) := by decide +kernel
theorem dX19_takeOpen_89 : decode cX19_takeOpen 89 = .ok (.aload_n 1, 1) := by decide +kernel
theorem dX19_takeOpen_90 : decode cX19_takeOpen 90 = .ok (.aload_n 0, 1) := by decide +kernel
theorem dX19_takeOpen_91 : decode cX19_takeOpen 91 = .ok (.iload_n 2, 1) := by decide +kernel
theorem dX19_takeOpen_92 : decode cX19_takeOpen 92 = .ok (.bipush 8, 2) := by decide +kernel
theorem dX19_takeOpen_94 : decode cX19_takeOpen 94 = .ok (.invokevirtual 61, 3) := by decide +kernel
theorem dX19_takeOpen_97 : decode cX19_takeOpen 97 = .ok (.ifCond .eq 12, 3) := by decide +kernel
theorem dX19_takeOpen_100 : decode cX19_takeOpen 100 = .ok (.aload_n 0, 1) := by decide +kernel
theorem dX19_takeOpen_101 : decode cX19_takeOpen 101 = .ok (.iload_n 2, 1) := by decide +kernel
theorem dX19_takeOpen_102 : decode cX19_takeOpen 102 = .ok (.iconst 4, 1) := by decide +kernel
theorem dX19_takeOpen_103 : decode cX19_takeOpen 103 = .ok (.invokevirtual 47, 3) := by decide +kernel
theorem dX19_takeOpen_106 : decode cX19_takeOpen 106 = .ok (.goto 7, 3) := by decide +kernel
theorem dX19_takeOpen_109 : decode cX19_takeOpen 109 = .ok (.aload_n 1, 1) := by decide +kernel
theorem dX19_takeOpen_110 : decode cX19_takeOpen 110 = .ok (.getfield 588, 3) := by decide +kernel
theorem dX19_takeOpen_113 : decode cX19_takeOpen 113 = .ok (.putfield 591, 3) := by decide +kernel
theorem dX19_takeOpen_116 : decode cX19_takeOpen 116 = .ok (.aload_n 0, 1) := by decide +kernel
theorem dX19_takeOpen_117 : decode cX19_takeOpen 117 = .ok (.aload_n 1, 1) := by decide +kernel
theorem dX19_takeOpen_118 : decode cX19_takeOpen 118 = .ok (.getfield 594, 3) := by decide +kernel
theorem dX19_takeOpen_121 : decode cX19_takeOpen 121 = .ok (.invokevirtual 50, 3) := by decide +kernel
theorem dX19_takeOpen_124 : decode cX19_takeOpen 124 = .ok (.aload_n 1, 1) := by decide +kernel
theorem dX19_takeOpen_125 : decode cX19_takeOpen 125 = .ok (.iconst (-1), 1) := by decide +kernel
theorem dX19_takeOpen_126 : decode cX19_takeOpen 126 = .ok (.putfield 594, 3) := by decide +kernel
theorem dX19_takeOpen_129 : decode cX19_takeOpen 129 = .ok (.aload_n 1, 1) := by decide +kernel
theorem dX19_takeOpen_130 : decode cX19_takeOpen 130 = .ok (.iconst 0, 1) := by decide +kernel
theorem dX19_takeOpen_131 : decode cX19_takeOpen 131 = .ok (.putfield 597, 3) := by decide +kernel
theorem dX19_takeOpen_134 : decode cX19_takeOpen 134 = .ok (.aload_n 0, 1) := by decide +kernel
theorem dX19_takeOpen_135 : decode cX19_takeOpen 135 = .ok (.iload_n 2, 1) := by decide +kernel
theorem dX19_takeOpen_136 : decode cX19_takeOpen 136 = .ok (.bipush 8, 2) := by decide +kernel
theorem dX19_takeOpen_138 : decode cX19_takeOpen 138 = .ok (.invokevirtual 47, 3) := by decide +kernel
theorem dX19_takeOpen_141 : decode cX19_takeOpen 141 = .ok (.istore 4, 2) := by decide +kernel
theorem dX19_takeOpen_143 : decode cX19_takeOpen 143 = .ok (.iload 4, 2) := by decide +kernel
theorem dX19_takeOpen_145 : decode cX19_takeOpen 145 = .ok (.iconst (-1), 1) := by decide +kernel
theorem dX19_takeOpen_146 : decode cX19_takeOpen 146 = .ok (.if_icmp .eq 47, 3) := by decide +kernel
theorem dX19_takeOpen_149 : decode cX19_takeOpen 149 = .ok (.aload_n 0, 1) := by decide +kernel
theorem dX19_takeOpen_150 : decode cX19_takeOpen 150 = .ok (.getfield 93, 3) := by decide +kernel
theorem dX19_takeOpen_153 : decode cX19_takeOpen 153 = .ok (.iload 4, 2) := by decide +kernel
theorem dX19_takeOpen_155 : decode cX19_takeOpen 155 = .ok (.iaload, 1) := by decide +kernel
theorem dX19_takeOpen_156 : decode cX19_takeOpen 156 = .ok (.ifCond .le 37, 3) := by decide +kernel
theorem dX19_takeOpen_159 : decode cX19_takeOpen 159 = .ok (.aload_n 0, 1) := by decide +kernel
theorem dX19_takeOpen_160 : decode cX19_takeOpen 160 = .ok (.getfield 96, 3) := by decide +kernel
theorem dX19_takeOpen_163 : decode cX19_takeOpen 163 = .ok (.iload 4, 2) := by decide +kernel
theorem dX19_takeOpen_165 : decode cX19_takeOpen 165 = .ok (.iaload, 1) := by decide +kernel
theorem dX19_takeOpen_166 : decode cX19_takeOpen 166 = .ok (.aload_n 0, 1) := by decide +kernel
theorem dX19_takeOpen_167 : decode cX19_takeOpen 167 = .ok (.iload_n 2, 1) := by decide +kernel
theorem dX19_takeOpen_168 : decode cX19_takeOpen 168 = .ok (.bipush 9, 2) := by decide +kernel
theorem dX19_takeOpen_170 : decode cX19_takeOpen 170 = .ok (.invokevirtual 47, 3) := by decide +kernel
theorem dX19_takeOpen_173 : decode cX19_takeOpen 173 = .ok (.if_icmp .ne 20, 3) := by decide +kernel
theorem dX19_takeOpen_176 : decode cX19_takeOpen 176 = .ok (.aload_n 1, 1) := by decide +kernel
theorem dX19_takeOpen_177 : decode cX19_takeOpen 177 = .ok (.iload 4, 2) := by decide +kernel
theorem dX19_takeOpen_179 : decode cX19_takeOpen 179 = .ok (.putfield 594, 3) := by decide +kernel
theorem dX19_takeOpen_182 : decode cX19_takeOpen 182 = .ok (.aload_n 0, 1) := by decide +kernel
theorem dX19_takeOpen_183 : decode cX19_takeOpen 183 = .ok (.getfield 93, 3) := by decide +kernel
theorem dX19_takeOpen_186 : decode cX19_takeOpen 186 = .ok (.iload 4, 2) := by decide +kernel
theorem dX19_takeOpen_188 : decode cX19_takeOpen 188 = .ok (.dup2, 1) := by decide +kernel
theorem dX19_takeOpen_189 : decode cX19_takeOpen 189 = .ok (.iaload, 1) := by decide +kernel
theorem dX19_takeOpen_190 : decode cX19_takeOpen 190 = .ok (.iconst 1, 1) := by decide +kernel
theorem dX19_takeOpen_191 : decode cX19_takeOpen 191 = .ok (.iadd, 1) := by decide +kernel
theorem dX19_takeOpen_192 : decode cX19_takeOpen 192 = .ok (.iastore, 1) := by decide +kernel
theorem dX19_takeOpen_193 : decode cX19_takeOpen 193 = .ok (.return_, 1) := by decide +kernel
theorem dX19_arriveAsking_0 : decode cX19_arriveAsking 0 = .ok (.aload_n 0, 1) := by decide +kernel
theorem dX19_arriveAsking_1 : decode cX19_arriveAsking 1 = .ok (.iload_n 2, 1) := by decide +kernel
theorem dX19_arriveAsking_2 : decode cX19_arriveAsking 2 = .ok (.bipush 8, 2) := by decide +kernel
theorem dX19_arriveAsking_4 : decode cX19_arriveAsking 4 = .ok (.invokevirtual 61, 3) := by decide +kernel
theorem dX19_arriveAsking_7 : decode cX19_arriveAsking 7 = .ok (.ifCond .eq 25, 3) := by decide +kernel
theorem dX19_arriveAsking_10 : decode cX19_arriveAsking 10 = .ok (.aload_n 0, 1) := by decide +kernel
theorem dX19_arriveAsking_11 : decode cX19_arriveAsking 11 = .ok (.iload_n 2, 1) := by decide +kernel
theorem dX19_arriveAsking_12 : decode cX19_arriveAsking 12 = .ok (.iconst 4, 1) := by decide +kernel
theorem dX19_arriveAsking_13 : decode cX19_arriveAsking 13 = .ok (.invokevirtual 47, 3) := by decide +kernel
theorem dX19_arriveAsking_16 : decode cX19_arriveAsking 16 = .ok (.aload_n 1, 1) := by decide +kernel
theorem dX19_arriveAsking_17 : decode cX19_arriveAsking 17 = .ok (.getfield 600, 3) := by decide +kernel
theorem dX19_arriveAsking_20 : decode cX19_arriveAsking 20 = .ok (.if_icmp .eq 12, 3) := by decide +kernel
theorem dX19_arriveAsking_23 : decode cX19_arriveAsking 23 = .ok (.aload_n 0, 1) := by decide +kernel
theorem dX19_arriveAsking_24 : decode cX19_arriveAsking 24 = .ok (.aload_n 1, 1) := by decide +kernel
theorem dX19_arriveAsking_25 : decode cX19_arriveAsking 25 = .ok (.iload_n 2, 1) := by decide +kernel
theorem dX19_arriveAsking_26 : decode cX19_arriveAsking 26 = .ok (.invokevirtual 603, 3) := by decide +kernel
theorem dX19_arriveAsking_29 : decode cX19_arriveAsking 29 = .ok (.goto 102, 3) := by decide +kernel
theorem dX19_arriveAsking_32 : decode cX19_arriveAsking 32 = .ok (.aload_n 0, 1) := by decide +kernel
theorem dX19_arriveAsking_33 : decode cX19_arriveAsking 33 = .ok (.iload_n 2, 1) := by decide +kernel
theorem dX19_arriveAsking_34 : decode cX19_arriveAsking 34 = .ok (.iconst 4, 1) := by decide +kernel
theorem dX19_arriveAsking_35 : decode cX19_arriveAsking 35 = .ok (.invokevirtual 61, 3) := by decide +kernel
theorem dX19_arriveAsking_38 : decode cX19_arriveAsking 38 = .ok (.ifCond .eq 26, 3) := by decide +kernel
theorem dX19_arriveAsking_41 : decode cX19_arriveAsking 41 = .ok (.aload_n 0, 1) := by decide +kernel
theorem dX19_arriveAsking_42 : decode cX19_arriveAsking 42 = .ok (.iload_n 2, 1) := by decide +kernel
theorem dX19_arriveAsking_43 : decode cX19_arriveAsking 43 = .ok (.bipush 8, 2) := by decide +kernel
theorem dX19_arriveAsking_45 : decode cX19_arriveAsking 45 = .ok (.invokevirtual 61, 3) := by decide +kernel
theorem dX19_arriveAsking_48 : decode cX19_arriveAsking 48 = .ok (.ifCond .eq 83, 3) := by decide +kernel
theorem dX19_arriveAsking_51 : decode cX19_arriveAsking 51 = .ok (.aload_n 1, 1) := by decide +kernel
theorem dX19_arriveAsking_52 : decode cX19_arriveAsking 52 = .ok (.bipush 11, 2) := by decide +kernel
theorem dX19_arriveAsking_54 : decode cX19_arriveAsking 54 = .ok (.aload_n 0, 1) := by decide +kernel
theorem dX19_arriveAsking_55 : decode cX19_arriveAsking 55 = .ok (.getfield 143, 3) := by decide +kernel
theorem dX19_arriveAsking_58 : decode cX19_arriveAsking 58 = .ok (.invokevirtual 367, 3) := by decide +kernel
theorem dX19_arriveAsking_61 : decode cX19_arriveAsking 61 = .ok (.goto 70, 3) := by decide +kernel
theorem dX19_arriveAsking_64 : decode cX19_arriveAsking 64 = .ok (.aload_n 0, 1) := by decide +kernel
theorem dX19_arriveAsking_65 : decode cX19_arriveAsking 65 = .ok (.iload_n 2, 1) := by decide +kernel
theorem dX19_arriveAsking_66 : decode cX19_arriveAsking 66 = .ok (.iconst 1, 1) := by decide +kernel
theorem dX19_arriveAsking_67 : decode cX19_arriveAsking 67 = .ok (.invokevirtual 61, 3) := by decide +kernel
theorem dX19_arriveAsking_70 : decode cX19_arriveAsking 70 = .ok (.ifCond .eq 61, 3) := by decide +kernel
theorem dX19_arriveAsking_73 : decode cX19_arriveAsking 73 = .ok (.aload_n 0, 1) := by decide +kernel
theorem dX19_arriveAsking_74 : decode cX19_arriveAsking 74 = .ok (.aload_n 1, 1) := by decide +kernel
theorem dX19_arriveAsking_75 : decode cX19_arriveAsking 75 = .ok (.iload_n 2, 1) := by decide +kernel
theorem dX19_arriveAsking_76 : decode cX19_arriveAsking 76 = .ok (.invokevirtual 607, 3) := by decide +kernel
theorem dX19_arriveAsking_79 : decode cX19_arriveAsking 79 = .ok (.aload_n 0, 1) := by decide +kernel
theorem dX19_arriveAsking_80 : decode cX19_arriveAsking 80 = .ok (.iload_n 2, 1) := by decide +kernel
theorem dX19_arriveAsking_81 : decode cX19_arriveAsking 81 = .ok (.bipush 8, 2) := by decide +kernel
theorem dX19_arriveAsking_83 : decode cX19_arriveAsking 83 = .ok (.invokevirtual 61, 3) := by decide +kernel
theorem dX19_arriveAsking_86 : decode cX19_arriveAsking 86 = .ok (.ifCond .eq 35, 3) := by decide +kernel
theorem dX19_arriveAsking_89 : decode cX19_arriveAsking 89 = .ok (.aload_n 1, 1) := by decide +kernel
theorem dX19_arriveAsking_90 : decode cX19_arriveAsking 90 = .ok (.iconst 4, 1) := by decide +kernel
theorem dX19_arriveAsking_91 : decode cX19_arriveAsking 91 = .ok (.putfield 353, 3) := by decide +kernel
theorem dX19_arriveAsking_94 : decode cX19_arriveAsking 94 = .ok (.aload_n 1, 1) := by decide +kernel
theorem dX19_arriveAsking_95 : decode cX19_arriveAsking 95 = .ok (.aload_n 0, 1) := by decide +kernel
theorem dX19_arriveAsking_96 : decode cX19_arriveAsking 96 = .ok (.iload_n 2, 1) := by decide +kernel
theorem dX19_arriveAsking_97 : decode cX19_arriveAsking 97 = .ok (.iconst 4, 1) := by decide +kernel
theorem dX19_arriveAsking_98 : decode cX19_arriveAsking 98 = .ok (.invokevirtual 47, 3) := by decide +kernel
theorem dX19_arriveAsking_101 : decode cX19_arriveAsking 101 = .ok (.aload_n 0, 1) := by decide +kernel
theorem dX19_arriveAsking_102 : decode cX19_arriveAsking 102 = .ok (.getfield 143, 3) := by decide +kernel
theorem dX19_arriveAsking_105 : decode cX19_arriveAsking 105 = .ok (.invokevirtual 610, 3) := by decide +kernel
theorem dX19_arriveAsking_108 : decode cX19_arriveAsking 108 = .ok (.aload_n 1, 1) := by decide +kernel
theorem dX19_arriveAsking_109 : decode cX19_arriveAsking 109 = .ok (.iconst 0, 1) := by decide +kernel
theorem dX19_arriveAsking_110 : decode cX19_arriveAsking 110 = .ok (.putfield 613, 3) := by decide +kernel
theorem dX19_arriveAsking_113 : decode cX19_arriveAsking 113 = .ok (.aload_n 1, 1) := by decide +kernel
theorem dX19_arriveAsking_114 : decode cX19_arriveAsking 114 = .ok (.iconst 1, 1) := by decide +kernel
theorem dX19_arriveAsking_115 : decode cX19_arriveAsking 115 = .ok (.putfield 616, 3) := by decide +kernel
theorem dX19_arriveAsking_118 : decode cX19_arriveAsking 118 = .ok (.goto 13, 3) := by decide +kernel
theorem dX19_arriveAsking_121 : decode cX19_arriveAsking 121 = .ok (.aload_n 1, 1) := by decide +kernel
theorem dX19_arriveAsking_122 : decode cX19_arriveAsking 122 = .ok (.iconst 3, 1) := by decide +kernel
theorem dX19_arriveAsking_123 : decode cX19_arriveAsking 123 = .ok (.putfield 353, 3) := by decide +kernel
theorem dX19_arriveAsking_126 : decode cX19_arriveAsking 126 = .ok (.aload_n 1, 1) := by decide +kernel
theorem dX19_arriveAsking_127 : decode cX19_arriveAsking 127 = .ok (.iconst 1, 1) := by decide +kernel
theorem dX19_arriveAsking_128 : decode cX19_arriveAsking 128 = .ok (.putfield 613, 3) := by decide +kernel
theorem dX19_arriveAsking_131 : decode cX19_arriveAsking 131 = .ok (.return_, 1) := by decide +kernel
theorem dX19_arriveListening_0 : decode cX19_arriveListening 0 = .ok (.aload_n 0, 1) := by decide +kernel
theorem dX19_arriveListening_1 : decode cX19_arriveListening 1 = .ok (.iload_n 2, 1) := by decide +kernel
theorem dX19_arriveListening_2 : decode cX19_arriveListening 2 = .ok (.iconst 4, 1) := by decide +kernel
theorem dX19_arriveListening_3 : decode cX19_arriveListening 3 = .ok (.invokevirtual 61, 3) := by decide +kernel
theorem dX19_arriveListening_6 : decode cX19_arriveListening 6 = .ok (.ifCond .eq 4, 3) := by decide +kernel
theorem dX19_arriveListening_9 : decode cX19_arriveListening 9 = .ok (.return_, 1) := by decide +kernel
theorem dX19_arriveListening_10 : decode cX19_arriveListening 10 = .ok (.aload_n 0, 1) := by decide +kernel
theorem dX19_arriveListening_11 : decode cX19_arriveListening 11 = .ok (.iload_n 2, 1) := by decide +kernel
theorem dX19_arriveListening_12 : decode cX19_arriveListening 12 = .ok (.bipush 8, 2) := by decide +kernel
theorem dX19_arriveListening_14 : decode cX19_arriveListening 14 = .ok (.invokevirtual 61, 3) := by decide +kernel
theorem dX19_arriveListening_17 : decode cX19_arriveListening 17 = .ok (.ifCond .eq 12, 3) := by decide +kernel
theorem dX19_arriveListening_20 : decode cX19_arriveListening 20 = .ok (.aload_n 0, 1) := by decide +kernel
theorem dX19_arriveListening_21 : decode cX19_arriveListening 21 = .ok (.aload_n 1, 1) := by decide +kernel
theorem dX19_arriveListening_22 : decode cX19_arriveListening 22 = .ok (.iload_n 2, 1) := by decide +kernel
theorem dX19_arriveListening_23 : decode cX19_arriveListening 23 = .ok (.invokevirtual 603, 3) := by decide +kernel
theorem dX19_arriveListening_26 : decode cX19_arriveListening 26 = .ok (.goto 38, 3) := by decide +kernel
theorem dX19_arriveListening_29 : decode cX19_arriveListening 29 = .ok (.aload_n 0, 1) := by decide +kernel
theorem dX19_arriveListening_30 : decode cX19_arriveListening 30 = .ok (.iload_n 2, 1) := by decide +kernel
theorem dX19_arriveListening_31 : decode cX19_arriveListening 31 = .ok (.iconst 1, 1) := by decide +kernel
theorem dX19_arriveListening_32 : decode cX19_arriveListening 32 = .ok (.invokevirtual 61, 3) := by decide +kernel
theorem dX19_arriveListening_35 : decode cX19_arriveListening 35 = .ok (.ifCond .eq 29, 3) := by decide +kernel
theorem dX19_arriveListening_38 : decode cX19_arriveListening 38 = .ok (.aload_n 0, 1) := by decide +kernel
theorem dX19_arriveListening_39 : decode cX19_arriveListening 39 = .ok (.aload_n 1, 1) := by decide +kernel
theorem dX19_arriveListening_40 : decode cX19_arriveListening 40 = .ok (.iload_n 2, 1) := by decide +kernel
theorem dX19_arriveListening_41 : decode cX19_arriveListening 41 = .ok (.invokevirtual 607, 3) := by decide +kernel
theorem dX19_arriveListening_44 : decode cX19_arriveListening 44 = .ok (.aload_n 1, 1) := by decide +kernel
theorem dX19_arriveListening_45 : decode cX19_arriveListening 45 = .ok (.iconst 3, 1) := by decide +kernel
theorem dX19_arriveListening_46 : decode cX19_arriveListening 46 = .ok (.putfield 353, 3) := by decide +kernel
theorem dX19_arriveListening_49 : decode cX19_arriveListening 49 = .ok (.aload_n 1, 1) := by decide +kernel
theorem dX19_arriveListening_50 : decode cX19_arriveListening 50 = .ok (.aload_n 1, 1) := by decide +kernel
theorem dX19_arriveListening_51 : decode cX19_arriveListening 51 = .ok (.getfield 588, 3) := by decide +kernel
theorem dX19_arriveListening_54 : decode cX19_arriveListening 54 = .ok (.iconst 1, 1) := by decide +kernel
theorem dX19_arriveListening_55 : decode cX19_arriveListening 55 = .ok (.iadd, 1) := by decide +kernel
theorem dX19_arriveListening_56 : decode cX19_arriveListening 56 = .ok (.putfield 600, 3) := by decide +kernel
theorem dX19_arriveListening_59 : decode cX19_arriveListening 59 = .ok (.aload_n 1, 1) := by decide +kernel
theorem dX19_arriveListening_60 : decode cX19_arriveListening 60 = .ok (.iconst 1, 1) := by decide +kernel
theorem dX19_arriveListening_61 : decode cX19_arriveListening 61 = .ok (.putfield 613, 3) := by decide +kernel
theorem dX19_arriveListening_64 : decode cX19_arriveListening 64 = .ok (.return_, 1) := by decide +kernel
theorem dX19_arrives_0 : decode cX19_arrives 0 = .ok (.aload_n 1, 1) := by decide +kernel
theorem dX19_arrives_1 : decode cX19_arrives 1 = .ok (.getfield 353, 3) := by decide +kernel
theorem dX19_arrives_4 : decode cX19_arrives 4 = .ok (.iconst 1, 1) := by decide +kernel
theorem dX19_arrives_5 : decode cX19_arrives 5 = .ok (.if_icmp .ne 11, 3) := by decide +kernel
theorem dX19_arrives_8 : decode cX19_arrives 8 = .ok (.aload_n 0, 1) := by decide +kernel
theorem dX19_arrives_9 : decode cX19_arrives 9 = .ok (.aload_n 1, 1) := by decide +kernel
theorem dX19_arrives_10 : decode cX19_arrives 10 = .ok (.iload_n 2, 1) := by decide +kernel
theorem dX19_arrives_11 : decode cX19_arrives 11 = .ok (.invokevirtual 619, 3) := by decide +kernel
theorem dX19_arrives_14 : decode cX19_arrives 14 = .ok (.iconst 0, 1) := by decide +kernel
theorem dX19_arrives_15 : decode cX19_arrives 15 = .ok (.ireturn, 1) := by decide +kernel
theorem dX19_arrives_16 : decode cX19_arrives 16 = .ok (.aload_n 1, 1) := by decide +kernel
theorem dX19_arrives_17 : decode cX19_arrives 17 = .ok (.getfield 353, 3) := by decide +kernel
theorem dX19_arrives_20 : decode cX19_arrives 20 = .ok (.iconst 2, 1) := by decide +kernel
theorem dX19_arrives_21 : decode cX19_arrives 21 = .ok (.if_icmp .ne 11, 3) := by decide +kernel
theorem dX19_arrives_24 : decode cX19_arrives 24 = .ok (.aload_n 0, 1) := by decide +kernel
theorem dX19_arrives_25 : decode cX19_arrives 25 = .ok (.aload_n 1, 1) := by decide +kernel
theorem dX19_arrives_26 : decode cX19_arrives 26 = .ok (.iload_n 2, 1) := by decide +kernel
theorem dX19_arrives_27 : decode cX19_arrives 27 = .ok (.invokevirtual 622, 3) := by decide +kernel
theorem dX19_arrives_30 : decode cX19_arrives 30 = .ok (.iconst 0, 1) := by decide +kernel
theorem dX19_arrives_31 : decode cX19_arrives 31 = .ok (.ireturn, 1) := by decide +kernel
theorem dX19_arrives_32 : decode cX19_arrives 32 = .ok (.aload_n 1, 1) := by decide +kernel
theorem dX19_arrives_33 : decode cX19_arrives 33 = .ok (.aload_n 0, 1) := by decide +kernel
theorem dX19_arrives_34 : decode cX19_arrives 34 = .ok (.iload_n 2, 1) := by decide +kernel
theorem dX19_arrives_35 : decode cX19_arrives 35 = .ok (.iconst 3, 1) := by decide +kernel
theorem dX19_arrives_36 : decode cX19_arrives 36 = .ok (.invokevirtual 47, 3) := by decide +kernel
theorem dX19_arrives_39 : decode cX19_arrives 39 = .ok (.aload_n 0, 1) := by decide +kernel
theorem dX19_arrives_40 : decode cX19_arrives 40 = .ok (.iload_n 2, 1) := by decide +kernel
theorem dX19_arrives_41 : decode cX19_arrives 41 = .ok (.invokevirtual 564, 3) := by decide +kernel
theorem dX19_arrives_44 : decode cX19_arrives 44 = .ok (.invokevirtual 625, 3) := by decide +kernel
theorem dX19_arrives_47 : decode cX19_arrives 47 = .ok (.ifCond .ne 60, 3) := by decide +kernel
theorem dX19_arrives_50 : decode cX19_arrives 50 = .ok (.aload_n 1, 1) := by decide +kernel
theorem dX19_arrives_51 : decode cX19_arrives 51 = .ok (.aload_n 1, 1) := by decide +kernel
theorem dX19_arrives_52 : decode cX19_arrives 52 = .ok (.getfield 616, 3) := by decide +kernel
theorem dX19_arrives_55 : decode cX19_arrives 55 = .ok (.ifCond .ne 12, 3) := by decide +kernel
theorem dX19_arrives_58 : decode cX19_arrives 58 = .ok (.aload_n 0, 1) := by decide +kernel
theorem dX19_arrives_59 : decode cX19_arrives 59 = .ok (.iload_n 2, 1) := by decide +kernel
theorem dX19_arrives_60 : decode cX19_arrives 60 = .ok (.iconst 4, 1) := by decide +kernel
theorem dX19_arrives_61 : decode cX19_arrives 61 = .ok (.invokevirtual 61, 3) := by decide +kernel
theorem dX19_arrives_64 : decode cX19_arrives 64 = .ok (.ifCond .ne 7, 3) := by decide +kernel
theorem dX19_arrives_67 : decode cX19_arrives 67 = .ok (.iconst 1, 1) := by decide +kernel
theorem dX19_arrives_68 : decode cX19_arrives 68 = .ok (.goto 4, 3) := by decide +kernel
theorem dX19_arrives_71 : decode cX19_arrives 71 = .ok (.iconst 0, 1) := by decide +kernel
theorem dX19_arrives_72 : decode cX19_arrives 72 = .ok (.putfield 616, 3) := by decide +kernel
theorem dX19_arrives_75 : decode cX19_arrives 75 = .ok (.aload_n 1, 1) := by decide +kernel
theorem dX19_arrives_76 : decode cX19_arrives 76 = .ok (.getfield 353, 3) := by decide +kernel
theorem dX19_arrives_79 : decode cX19_arrives 79 = .ok (.bipush 10, 2) := by decide +kernel
theorem dX19_arrives_81 : decode cX19_arrives 81 = .ok (.if_icmp .ne 24, 3) := by decide +kernel
theorem dX19_arrives_84 : decode cX19_arrives 84 = .ok (.aload_n 0, 1) := by decide +kernel
theorem dX19_arrives_85 : decode cX19_arrives 85 = .ok (.iload_n 2, 1) := by decide +kernel
theorem dX19_arrives_86 : decode cX19_arrives 86 = .ok (.iconst 2, 1) := by decide +kernel
theorem dX19_arrives_87 : decode cX19_arrives 87 = .ok (.invokevirtual 61, 3) := by decide +kernel
theorem dX19_arrives_90 : decode cX19_arrives 90 = .ok (.ifCond .eq 15, 3) := by decide +kernel
theorem dX19_arrives_93 : decode cX19_arrives 93 = .ok (.aload_n 1, 1) := by decide +kernel
theorem dX19_arrives_94 : decode cX19_arrives 94 = .ok (.aload_n 0, 1) := by decide +kernel
theorem dX19_arrives_95 : decode cX19_arrives 95 = .ok (.getfield 143, 3) := by decide +kernel
theorem dX19_arrives_98 : decode cX19_arrives 98 = .ok (.sipush 2000, 3) := by decide +kernel
theorem dX19_arrives_101 : decode cX19_arrives 101 = .ok (.iadd, 1) := by decide +kernel
theorem dX19_arrives_102 : decode cX19_arrives 102 = .ok (.putfield 628, 3) := by decide +kernel
theorem dX19_arrives_105 : decode cX19_arrives 105 = .ok (.iconst 0, 1) := by decide +kernel
theorem dX19_arrives_106 : decode cX19_arrives 106 = .ok (.ireturn, 1) := by decide +kernel
theorem dX19_arrives_107 : decode cX19_arrives 107 = .ok (.aload_n 0, 1) := by decide +kernel
theorem dX19_arrives_108 : decode cX19_arrives 108 = .ok (.iload_n 2, 1) := by decide +kernel
theorem dX19_arrives_109 : decode cX19_arrives 109 = .ok (.iconst 4, 1) := by decide +kernel
theorem dX19_arrives_110 : decode cX19_arrives 110 = .ok (.invokevirtual 61, 3) := by decide +kernel
theorem dX19_arrives_113 : decode cX19_arrives 113 = .ok (.ifCond .eq 83, 3) := by decide +kernel
theorem dX19_arrives_116 : decode cX19_arrives 116 = .ok (.aload_n 0, 1) := by decide +kernel
theorem dX19_arrives_117 : decode cX19_arrives 117 = .ok (.iload_n 2, 1) := by decide +kernel
theorem dX19_arrives_118 : decode cX19_arrives 118 = .ok (.iconst 3, 1) := by decide +kernel
theorem dX19_arrives_119 : decode cX19_arrives 119 = .ok (.invokevirtual 47, 3) := by decide +kernel
theorem dX19_arrives_122 : decode cX19_arrives 122 = .ok (.aload_n 1, 1) := by decide +kernel
theorem dX19_arrives_123 : decode cX19_arrives 123 = .ok (.getfield 570, 3) := by decide +kernel
theorem dX19_arrives_126 : decode cX19_arrives 126 = .ok (.if_icmp .eq 10, 3) := by decide +kernel
theorem dX19_arrives_129 : decode cX19_arrives 129 = .ok (.aload_n 1, 1) := by decide +kernel
theorem dX19_arrives_130 : decode cX19_arrives 130 = .ok (.iconst 1, 1) := by decide +kernel
theorem dX19_arrives_131 : decode cX19_arrives 131 = .ok (.putfield 616, 3) := by decide +kernel
theorem dX19_arrives_134 : decode cX19_arrives 134 = .ok (.iconst 0, 1) := by decide +kernel
theorem dX19_arrives_135 : decode cX19_arrives 135 = .ok (.ireturn, 1) := by decide +kernel
theorem dX19_arrives_136 : decode cX19_arrives 136 = .ok (.aload_n 1, 1) := by decide +kernel
theorem dX19_arrives_137 : decode cX19_arrives 137 = .ok (.getfield 353, 3) := by decide +kernel
theorem dX19_arrives_140 : decode cX19_arrives 140 = .ok (.iconst 3, 1) := by decide +kernel
theorem dX19_arrives_141 : decode cX19_arrives 141 = .ok (.if_icmp .ne 12, 3) := by decide +kernel
theorem dX19_arrives_144 : decode cX19_arrives 144 = .ok (.aload_n 1, 1) := by decide +kernel
theorem dX19_arrives_145 : decode cX19_arrives 145 = .ok (.getfield 631, 3) := by decide +kernel
theorem dX19_arrives_148 : decode cX19_arrives 148 = .ok (.ifCond .eq 5, 3) := by decide +kernel
theorem dX19_arrives_151 : decode cX19_arrives 151 = .ok (.iconst 1, 1) := by decide +kernel
theorem dX19_arrives_152 : decode cX19_arrives 152 = .ok (.ireturn, 1) := by decide +kernel
theorem dX19_arrives_153 : decode cX19_arrives 153 = .ok (.aload_n 1, 1) := by decide +kernel
theorem dX19_arrives_154 : decode cX19_arrives 154 = .ok (.aload_n 1, 1) := by decide +kernel
theorem dX19_arrives_155 : decode cX19_arrives 155 = .ok (.getfield 353, 3) := by decide +kernel
theorem dX19_arrives_158 : decode cX19_arrives 158 = .ok (.bipush 8, 2) := by decide +kernel
theorem dX19_arrives_160 : decode cX19_arrives 160 = .ok (.if_icmp .eq 21, 3) := by decide +kernel
theorem dX19_arrives_163 : decode cX19_arrives 163 = .ok (.aload_n 1, 1) := by decide +kernel
theorem dX19_arrives_164 : decode cX19_arrives 164 = .ok (.getfield 353, 3) := by decide +kernel
theorem dX19_arrives_167 : decode cX19_arrives 167 = .ok (.bipush 9, 2) := by decide +kernel
theorem dX19_arrives_169 : decode cX19_arrives 169 = .ok (.if_icmp .eq 12, 3) := by decide +kernel
theorem dX19_arrives_172 : decode cX19_arrives 172 = .ok (.aload_n 1, 1) := by decide +kernel
theorem dX19_arrives_173 : decode cX19_arrives 173 = .ok (.getfield 353, 3) := by decide +kernel
theorem dX19_arrives_176 : decode cX19_arrives 176 = .ok (.bipush 10, 2) := by decide +kernel
theorem dX19_arrives_178 : decode cX19_arrives 178 = .ok (.if_icmp .ne 7, 3) := by decide +kernel
theorem dX19_arrives_181 : decode cX19_arrives 181 = .ok (.iconst 0, 1) := by decide +kernel
theorem dX19_arrives_182 : decode cX19_arrives 182 = .ok (.goto 5, 3) := by decide +kernel
theorem dX19_arrives_185 : decode cX19_arrives 185 = .ok (.bipush 11, 2) := by decide +kernel
theorem dX19_arrives_187 : decode cX19_arrives 187 = .ok (.aload_n 0, 1) := by decide +kernel
theorem dX19_arrives_188 : decode cX19_arrives 188 = .ok (.getfield 143, 3) := by decide +kernel
theorem dX19_arrives_191 : decode cX19_arrives 191 = .ok (.invokevirtual 367, 3) := by decide +kernel
theorem dX19_arrives_194 : decode cX19_arrives 194 = .ok (.iconst 0, 1) := by decide +kernel
theorem dX19_arrives_195 : decode cX19_arrives 195 = .ok (.ireturn, 1) := by decide +kernel
theorem dX19_arrives_196 : decode cX19_arrives 196 = .ok (.aload_n 0, 1) := by decide +kernel
theorem dX19_arrives_197 : decode cX19_arrives 197 = .ok (.iload_n 2, 1) := by decide +kernel
theorem dX19_arrives_198 : decode cX19_arrives 198 = .ok (.iconst 1, 1) := by decide +kernel
theorem dX19_arrives_199 : decode cX19_arrives 199 = .ok (.invokevirtual 61, 3) := by decide +kernel
theorem dX19_arrives_202 : decode cX19_arrives 202 = .ok (.ifCond .eq 10, 3) := by decide +kernel
theorem dX19_arrives_205 : decode cX19_arrives 205 = .ok (.aload_n 1, 1) := by decide +kernel
theorem dX19_arrives_206 : decode cX19_arrives 206 = .ok (.iconst 1, 1) := by decide +kernel
theorem dX19_arrives_207 : decode cX19_arrives 207 = .ok (.putfield 616, 3) := by decide +kernel
theorem dX19_arrives_210 : decode cX19_arrives 210 = .ok (.iconst 0, 1) := by decide +kernel
theorem dX19_arrives_211 : decode cX19_arrives 211 = .ok (.ireturn, 1) := by decide +kernel
theorem dX19_arrives_212 : decode cX19_arrives 212 = .ok (.aload_n 0, 1) := by decide +kernel
theorem dX19_arrives_213 : decode cX19_arrives 213 = .ok (.iload_n 2, 1) := by decide +kernel
theorem dX19_arrives_214 : decode cX19_arrives 214 = .ok (.bipush 8, 2) := by decide +kernel
theorem dX19_arrives_216 : decode cX19_arrives 216 = .ok (.invokevirtual 61, 3) := by decide +kernel
theorem dX19_arrives_219 : decode cX19_arrives 219 = .ok (.ifCond .ne 5, 3) := by decide +kernel
theorem dX19_arrives_222 : decode cX19_arrives 222 = .ok (.iconst 0, 1) := by decide +kernel
theorem dX19_arrives_223 : decode cX19_arrives 223 = .ok (.ireturn, 1) := by decide +kernel
theorem dX19_arrives_224 : decode cX19_arrives 224 = .ok (.aload_n 1, 1) := by decide +kernel
theorem dX19_arrives_225 : decode cX19_arrives 225 = .ok (.getfield 353, 3) := by decide +kernel
theorem dX19_arrives_228 : decode cX19_arrives 228 = .ok (.iconst 3, 1) := by decide +kernel
theorem dX19_arrives_229 : decode cX19_arrives 229 = .ok (.if_icmp .ne 48, 3) := by decide +kernel
theorem dX19_arrives_232 : decode cX19_arrives 232 = .ok (.aload_n 0, 1) := by decide +kernel
theorem dX19_arrives_233 : decode cX19_arrives 233 = .ok (.iload_n 2, 1) := by decide +kernel
theorem dX19_arrives_234 : decode cX19_arrives 234 = .ok (.iconst 4, 1) := by decide +kernel
theorem dX19_arrives_235 : decode cX19_arrives 235 = .ok (.invokevirtual 47, 3) := by decide +kernel
theorem dX19_arrives_238 : decode cX19_arrives 238 = .ok (.aload_n 1, 1) := by decide +kernel
theorem dX19_arrives_239 : decode cX19_arrives 239 = .ok (.getfield 600, 3) := by decide +kernel
theorem dX19_arrives_242 : decode cX19_arrives 242 = .ok (.if_icmp .eq 11, 3) := by decide +kernel
theorem dX19_arrives_245 : decode cX19_arrives 245 = .ok (.aload_n 0, 1) := by decide +kernel
theorem dX19_arrives_246 : decode cX19_arrives 246 = .ok (.aload_n 1, 1) := by decide +kernel
theorem dX19_arrives_247 : decode cX19_arrives 247 = .ok (.iload_n 2, 1) := by decide +kernel
theorem dX19_arrives_248 : decode cX19_arrives 248 = .ok (.invokevirtual 603, 3) := by decide +kernel
theorem dX19_arrives_251 : decode cX19_arrives 251 = .ok (.iconst 0, 1) := by decide +kernel
theorem dX19_arrives_252 : decode cX19_arrives 252 = .ok (.ireturn, 1) := by decide +kernel
theorem dX19_arrives_253 : decode cX19_arrives 253 = .ok (.aload_n 1, 1) := by decide +kernel
theorem dX19_arrives_254 : decode cX19_arrives 254 = .ok (.aload_n 1, 1) := by decide +kernel
theorem dX19_arrives_255 : decode cX19_arrives 255 = .ok (.getfield 634, 3) := by decide +kernel
theorem dX19_arrives_258 : decode cX19_arrives 258 = .ok (.ifCond .eq 7, 3) := by decide +kernel
theorem dX19_arrives_261 : decode cX19_arrives 261 = .ok (.iconst 5, 1) := by decide +kernel
theorem dX19_arrives_262 : decode cX19_arrives 262 = .ok (.goto 4, 3) := by decide +kernel
theorem dX19_arrives_265 : decode cX19_arrives 265 = .ok (.iconst 4, 1) := by decide +kernel
theorem dX19_arrives_266 : decode cX19_arrives 266 = .ok (.putfield 353, 3) := by decide +kernel
theorem dX19_arrives_269 : decode cX19_arrives 269 = .ok (.aload_n 1, 1) := by decide +kernel
theorem dX19_arrives_270 : decode cX19_arrives 270 = .ok (.iconst 0, 1) := by decide +kernel
theorem dX19_arrives_271 : decode cX19_arrives 271 = .ok (.putfield 613, 3) := by decide +kernel
theorem dX19_arrives_274 : decode cX19_arrives 274 = .ok (.goto 26, 3) := by decide +kernel
theorem dX19_arrives_277 : decode cX19_arrives 277 = .ok (.aload_n 1, 1) := by decide +kernel
theorem dX19_arrives_278 : decode cX19_arrives 278 = .ok (.getfield 600, 3) := by decide +kernel
theorem dX19_arrives_281 : decode cX19_arrives 281 = .ok (.aload_n 0, 1) := by decide +kernel
theorem dX19_arrives_282 : decode cX19_arrives 282 = .ok (.iload_n 2, 1) := by decide +kernel
theorem dX19_arrives_283 : decode cX19_arrives 283 = .ok (.iconst 4, 1) := by decide +kernel
theorem dX19_arrives_284 : decode cX19_arrives 284 = .ok (.invokevirtual 47, 3) := by decide +kernel
theorem dX19_arrives_287 : decode cX19_arrives 287 = .ok (.invokestatic 637, 3) := by decide +kernel
theorem dX19_arrives_290 : decode cX19_arrives 290 = .ok (.ifCond .eq 10, 3) := by decide +kernel
theorem dX19_arrives_293 : decode cX19_arrives 293 = .ok (.aload_n 1, 1) := by decide +kernel
theorem dX19_arrives_294 : decode cX19_arrives 294 = .ok (.iconst 1, 1) := by decide +kernel
theorem dX19_arrives_295 : decode cX19_arrives 295 = .ok (.putfield 616, 3) := by decide +kernel
theorem dX19_arrives_298 : decode cX19_arrives 298 = .ok (.iconst 0, 1) := by decide +kernel
theorem dX19_arrives_299 : decode cX19_arrives 299 = .ok (.ireturn, 1) := by decide +kernel
theorem dX19_arrives_300 : decode cX19_arrives 300 = .ok (.aload_n 0, 1) := by decide +kernel
theorem dX19_arrives_301 : decode cX19_arrives 301 = .ok (.aload_n 1, 1) := by decide +kernel
theorem dX19_arrives_302 : decode cX19_arrives 302 = .ok (.iload_n 2, 1) := by decide +kernel
theorem dX19_arrives_303 : decode cX19_arrives 303 = .ok (.invokevirtual 640, 3) := by decide +kernel
theorem dX19_arrives_306 : decode cX19_arrives 306 = .ok (.aload_n 1, 1) := by decide +kernel
theorem dX19_arrives_307 : decode cX19_arrives 307 = .ok (.getfield 353, 3) := by decide +kernel
theorem dX19_arrives_310 : decode cX19_arrives 310 = .ok (.ifCond .eq 9, 3) := by decide +kernel
theorem dX19_arrives_313 : decode cX19_arrives 313 = .ok (.aload_n 0, 1) := by decide +kernel
theorem dX19_arrives_314 : decode cX19_arrives 314 = .ok (.aload_n 1, 1) := by decide +kernel
theorem dX19_arrives_315 : decode cX19_arrives 315 = .ok (.iload_n 2, 1) := by decide +kernel
theorem dX19_arrives_316 : decode cX19_arrives 316 = .ok (.invokevirtual 643, 3) := by decide +kernel
theorem dX19_arrives_319 : decode cX19_arrives 319 = .ok (.iconst 0, 1) := by decide +kernel
theorem dX19_arrives_320 : decode cX19_arrives 320 = .ok (.ireturn, 1) := by decide +kernel
theorem dX19_arriveThanks_0 : decode cX19_arriveThanks 0 = .ok (.aload_n 0, 1) := by decide +kernel
theorem dX19_arriveThanks_1 : decode cX19_arriveThanks 1 = .ok (.iload_n 2, 1) := by decide +kernel
theorem dX19_arriveThanks_2 : decode cX19_arriveThanks 2 = .ok (.iconst 4, 1) := by decide +kernel
theorem dX19_arriveThanks_3 : decode cX19_arriveThanks 3 = .ok (.invokevirtual 47, 3) := by decide +kernel
theorem dX19_arriveThanks_6 : decode cX19_arriveThanks 6 = .ok (.istore_n 3, 1) := by decide +kernel
theorem dX19_arriveThanks_7 : decode cX19_arriveThanks 7 = .ok (.aload_n 1, 1) := by decide +kernel
theorem dX19_arriveThanks_8 : decode cX19_arriveThanks 8 = .ok (.getfield 646, 3) := by decide +kernel
theorem dX19_arriveThanks_11 : decode cX19_arriveThanks 11 = .ok (.iload_n 3, 1) := by decide +kernel
theorem dX19_arriveThanks_12 : decode cX19_arriveThanks 12 = .ok (.invokestatic 637, 3) := by decide +kernel
theorem dX19_arriveThanks_15 : decode cX19_arriveThanks 15 = .ok (.ifCond .eq 12, 3) := by decide +kernel
theorem dX19_arriveThanks_18 : decode cX19_arriveThanks 18 = .ok (.aload_n 1, 1) := by decide +kernel
theorem dX19_arriveThanks_19 : decode cX19_arriveThanks 19 = .ok (.iload_n 3, 1) := by decide +kernel
theorem dX19_arriveThanks_20 : decode cX19_arriveThanks 20 = .ok (.aload_n 0, 1) := by decide +kernel
theorem dX19_arriveThanks_21 : decode cX19_arriveThanks 21 = .ok (.getfield 143, 3) := by decide +kernel
theorem dX19_arriveThanks_24 : decode cX19_arriveThanks 24 = .ok (.invokevirtual 610, 3) := by decide +kernel
theorem dX19_arriveThanks_27 : decode cX19_arriveThanks 27 = .ok (.aload_n 1, 1) := by decide +kernel
theorem dX19_arriveThanks_28 : decode cX19_arriveThanks 28 = .ok (.getfield 585, 3) := by decide +kernel
theorem dX19_arriveThanks_31 : decode cX19_arriveThanks 31 = .ok (.aload_n 0, 1) := by decide +kernel
theorem dX19_arriveThanks_32 : decode cX19_arriveThanks 32 = .ok (.iload_n 2, 1) := by decide +kernel
theorem dX19_arriveThanks_33 : decode cX19_arriveThanks 33 = .ok (.iconst 3, 1) := by decide +kernel
theorem dX19_arriveThanks_34 : decode cX19_arriveThanks 34 = .ok (.invokevirtual 47, 3) := by decide +kernel
theorem dX19_arriveThanks_37 : decode cX19_arriveThanks 37 = .ok (.invokestatic 637, 3) := by decide +kernel
theorem dX19_arriveThanks_40 : decode cX19_arriveThanks 40 = .ok (.ifCond .ne 27, 3) := by decide +kernel
theorem dX19_arriveThanks_43 : decode cX19_arriveThanks 43 = .ok (.aload_n 1, 1) := by decide +kernel
theorem dX19_arriveThanks_44 : decode cX19_arriveThanks 44 = .ok (.getfield 585, 3) := by decide +kernel
theorem dX19_arriveThanks_47 : decode cX19_arriveThanks 47 = .ok (.aload_n 0, 1) := by decide +kernel
theorem dX19_arriveThanks_48 : decode cX19_arriveThanks 48 = .ok (.iload_n 2, 1) := by decide +kernel
theorem dX19_arriveThanks_49 : decode cX19_arriveThanks 49 = .ok (.iconst 3, 1) := by decide +kernel
theorem dX19_arriveThanks_50 : decode cX19_arriveThanks 50 = .ok (.invokevirtual 47, 3) := by decide +kernel
theorem dX19_arriveThanks_53 : decode cX19_arriveThanks 53 = .ok (.if_icmp .ne 18, 3) := by decide +kernel
theorem dX19_arriveThanks_56 : decode cX19_arriveThanks 56 = .ok (.iload_n 3, 1) := by decide +kernel
theorem dX19_arriveThanks_57 : decode cX19_arriveThanks 57 = .ok (.aload_n 1, 1) := by decide +kernel
theorem dX19_arriveThanks_58 : decode cX19_arriveThanks 58 = .ok (.getfield 591, 3) := by decide +kernel
theorem dX19_arriveThanks_61 : decode cX19_arriveThanks 61 = .ok (.invokestatic 637, 3) := by decide +kernel
theorem dX19_arriveThanks_64 : decode cX19_arriveThanks 64 = .ok (.ifCond .ne 7, 3) := by decide +kernel
theorem dX19_arriveThanks_67 : decode cX19_arriveThanks 67 = .ok (.iconst 1, 1) := by decide +kernel
theorem dX19_arriveThanks_68 : decode cX19_arriveThanks 68 = .ok (.goto 4, 3) := by decide +kernel
theorem dX19_arriveThanks_71 : decode cX19_arriveThanks 71 = .ok (.iconst 0, 1) := by decide +kernel
theorem dX19_arriveThanks_72 : decode cX19_arriveThanks 72 = .ok (.istore 4, 2) := by decide +kernel
theorem dX19_arriveThanks_74 : decode cX19_arriveThanks 74 = .ok (.iload_n 3, 1) := by decide +kernel
theorem dX19_arriveThanks_75 : decode cX19_arriveThanks 75 = .ok (.aload_n 1, 1) := by decide +kernel
theorem dX19_arriveThanks_76 : decode cX19_arriveThanks 76 = .ok (.getfield 646, 3) := by decide +kernel
theorem dX19_arriveThanks_79 : decode cX19_arriveThanks 79 = .ok (.invokestatic 637, 3) := by decide +kernel
theorem dX19_arriveThanks_82 : decode cX19_arriveThanks 82 = .ok (.ifCond .ne 113, 3) := by decide +kernel
theorem dX19_arriveThanks_85 : decode cX19_arriveThanks 85 = .ok (.iload 4, 2) := by decide +kernel
theorem dX19_arriveThanks_87 : decode cX19_arriveThanks 87 = .ok (.ifCond .eq 108, 3) := by decide +kernel
theorem dX19_arriveThanks_90 : decode cX19_arriveThanks 90 = .ok (.aload_n 1, 1) := by decide +kernel
theorem dX19_arriveThanks_91 : decode cX19_arriveThanks 91 = .ok (.getfield 582, 3) := by decide +kernel
theorem dX19_arriveThanks_94 : decode cX19_arriveThanks 94 = .ok (.ifCond .ne 16, 3) := by decide +kernel
theorem dX19_arriveThanks_97 : decode cX19_arriveThanks 97 = .ok (.aload_n 0, 1) := by decide +kernel
theorem dX19_arriveThanks_98 : decode cX19_arriveThanks 98 = .ok (.iload_n 2, 1) := by decide +kernel
theorem dX19_arriveThanks_99 : decode cX19_arriveThanks 99 = .ok (.iconst 5, 1) := by decide +kernel
theorem dX19_arriveThanks_100 : decode cX19_arriveThanks 100 = .ok (.invokevirtual 47, 3) := by decide +kernel
theorem dX19_arriveThanks_103 : decode cX19_arriveThanks 103 = .ok (.ifCond .eq 7, 3) := by decide +kernel
theorem dX19_arriveThanks_106 : decode cX19_arriveThanks 106 = .ok (.iconst 1, 1) := by decide +kernel
theorem dX19_arriveThanks_107 : decode cX19_arriveThanks 107 = .ok (.goto 4, 3) := by decide +kernel
theorem dX19_arriveThanks_110 : decode cX19_arriveThanks 110 = .ok (.iconst 0, 1) := by decide +kernel
theorem dX19_arriveThanks_111 : decode cX19_arriveThanks 111 = .ok (.istore 5, 2) := by decide +kernel
theorem dX19_arriveThanks_113 : decode cX19_arriveThanks 113 = .ok (.aload_n 1, 1) := by decide +kernel
theorem dX19_arriveThanks_114 : decode cX19_arriveThanks 114 = .ok (.aload_n 0, 1) := by decide +kernel
theorem dX19_arriveThanks_115 : decode cX19_arriveThanks 115 = .ok (.iload_n 2, 1) := by decide +kernel
theorem dX19_arriveThanks_116 : decode cX19_arriveThanks 116 = .ok (.iconst 5, 1) := by decide +kernel
theorem dX19_arriveThanks_117 : decode cX19_arriveThanks 117 = .ok (.invokevirtual 47, 3) := by decide +kernel
theorem dX19_arriveThanks_120 : decode cX19_arriveThanks 120 = .ok (.putfield 582, 3) := by decide +kernel
theorem dX19_arriveThanks_123 : decode cX19_arriveThanks 123 = .ok (.aload_n 1, 1) := by decide +kernel
theorem dX19_arriveThanks_124 : decode cX19_arriveThanks 124 = .ok (.aload_n 0, 1) := by decide +kernel
theorem dX19_arriveThanks_125 : decode cX19_arriveThanks 125 = .ok (.iload_n 2, 1) := by decide +kernel
theorem dX19_arriveThanks_126 : decode cX19_arriveThanks 126 = .ok (.iconst 3, 1) := by decide +kernel
theorem dX19_arriveThanks_127 : decode cX19_arriveThanks 127 = .ok (.invokevirtual 47, 3) := by decide +kernel
theorem dX19_arriveThanks_130 : decode cX19_arriveThanks 130 = .ok (.putfield 585, 3) := by decide +kernel
theorem dX19_arriveThanks_133 : decode cX19_arriveThanks 133 = .ok (.aload_n 1, 1) := by decide +kernel
theorem dX19_arriveThanks_134 : decode cX19_arriveThanks 134 = .ok (.iload_n 3, 1) := by decide +kernel
theorem dX19_arriveThanks_135 : decode cX19_arriveThanks 135 = .ok (.putfield 591, 3) := by decide +kernel
theorem dX19_arriveThanks_138 : decode cX19_arriveThanks 138 = .ok (.iload 5, 2) := by decide +kernel
theorem dX19_arriveThanks_140 : decode cX19_arriveThanks 140 = .ok (.ifCond .eq 43, 3) := by decide +kernel
theorem dX19_arriveThanks_143 : decode cX19_arriveThanks 143 = .ok (.aload_n 1, 1) := by decide +kernel
theorem dX19_arriveThanks_144 : decode cX19_arriveThanks 144 = .ok (.iconst 0, 1) := by decide +kernel
theorem dX19_arriveThanks_145 : decode cX19_arriveThanks 145 = .ok (.putfield 649, 3) := by decide +kernel
theorem dX19_arriveThanks_148 : decode cX19_arriveThanks 148 = .ok (.aload_n 1, 1) := by decide +kernel
theorem dX19_arriveThanks_149 : decode cX19_arriveThanks 149 = .ok (.iconst 0, 1) := by decide +kernel
theorem dX19_arriveThanks_150 : decode cX19_arriveThanks 150 = .ok (.putfield 652, 3) := by decide +kernel
theorem dX19_arriveThanks_153 : decode cX19_arriveThanks 153 = .ok (.aload_n 1, 1) := by decide +kernel
theorem dX19_arriveThanks_154 : decode cX19_arriveThanks 154 = .ok (.aload_n 1, 1) := by decide +kernel
theorem dX19_arriveThanks_155 : decode cX19_arriveThanks 155 = .ok (.getfield 655, 3) := by decide +kernel
theorem dX19_arriveThanks_158 : decode cX19_arriveThanks 158 = .ok (.ifCond .eq 18, 3) := by decide +kernel
theorem dX19_arriveThanks_161 : decode cX19_arriveThanks 161 = .ok (.aload_n 1, 1) := by decide +kernel
theorem dX19_arriveThanks_162 : decode cX19_arriveThanks 162 = .ok (.getfield 646, 3) := by decide +kernel
theorem dX19_arriveThanks_165 : decode cX19_arriveThanks 165 = .ok (.aload_n 1, 1) := by decide +kernel
theorem dX19_arriveThanks_166 : decode cX19_arriveThanks 166 = .ok (.getfield 600, 3) := by decide +kernel
theorem dX19_arriveThanks_169 : decode cX19_arriveThanks 169 = .ok (.if_icmp .eq 7, 3) := by decide +kernel
theorem dX19_arriveThanks_172 : decode cX19_arriveThanks 172 = .ok (.iconst 1, 1) := by decide +kernel
theorem dX19_arriveThanks_173 : decode cX19_arriveThanks 173 = .ok (.goto 4, 3) := by decide +kernel
theorem dX19_arriveThanks_176 : decode cX19_arriveThanks 176 = .ok (.iconst 0, 1) := by decide +kernel
theorem dX19_arriveThanks_177 : decode cX19_arriveThanks 177 = .ok (.putfield 655, 3) := by decide +kernel
theorem dX19_arriveThanks_180 : decode cX19_arriveThanks 180 = .ok (.goto 15, 3) := by decide +kernel
theorem dX19_arriveThanks_183 : decode cX19_arriveThanks 183 = .ok (.aload_n 1, 1) := by decide +kernel
theorem dX19_arriveThanks_184 : decode cX19_arriveThanks 184 = .ok (.getfield 582, 3) := by decide +kernel
theorem dX19_arriveThanks_187 : decode cX19_arriveThanks 187 = .ok (.ifCond .ne 8, 3) := by decide +kernel
theorem dX19_arriveThanks_190 : decode cX19_arriveThanks 190 = .ok (.aload_n 1, 1) := by decide +kernel
theorem dX19_arriveThanks_191 : decode cX19_arriveThanks 191 = .ok (.iconst 0, 1) := by decide +kernel
theorem dX19_arriveThanks_192 : decode cX19_arriveThanks 192 = .ok (.putfield 649, 3) := by decide +kernel
theorem dX19_arriveThanks_195 : decode cX19_arriveThanks 195 = .ok (.aload_n 1, 1) := by decide +kernel
theorem dX19_arriveThanks_196 : decode cX19_arriveThanks 196 = .ok (.getfield 634, 3) := by decide +kernel
theorem dX19_arriveThanks_199 : decode cX19_arriveThanks 199 = .ok (.ifCond .eq 78, 3) := by decide +kernel
theorem dX19_arriveThanks_202 : decode cX19_arriveThanks 202 = .ok (.aload_n 1, 1) := by decide +kernel
theorem dX19_arriveThanks_203 : decode cX19_arriveThanks 203 = .ok (.getfield 658, 3) := by decide +kernel
theorem dX19_arriveThanks_206 : decode cX19_arriveThanks 206 = .ok (.aload_n 1, 1) := by decide +kernel
theorem dX19_arriveThanks_207 : decode cX19_arriveThanks 207 = .ok (.getfield 646, 3) := by decide +kernel
theorem dX19_arriveThanks_210 : decode cX19_arriveThanks 210 = .ok (.invokestatic 637, 3) := by decide +kernel
theorem dX19_arriveThanks_213 : decode cX19_arriveThanks 213 = .ok (.ifCond .eq 64, 3) := by decide +kernel
theorem dX19_arriveThanks_216 : decode cX19_arriveThanks 216 = .ok (.aload_n 1, 1) := by decide +kernel
theorem dX19_arriveThanks_217 : decode cX19_arriveThanks 217 = .ok (.getfield 353, 3) := by decide +kernel
theorem dX19_arriveThanks_220 : decode cX19_arriveThanks 220 = .ok (.iconst 5, 1) := by decide +kernel
theorem dX19_arriveThanks_221 : decode cX19_arriveThanks 221 = .ok (.if_icmp .ne 16, 3) := by decide +kernel
theorem dX19_arriveThanks_224 : decode cX19_arriveThanks 224 = .ok (.aload_n 1, 1) := by decide +kernel
theorem dX19_arriveThanks_225 : decode cX19_arriveThanks 225 = .ok (.bipush 6, 2) := by decide +kernel
theorem dX19_arriveThanks_227 : decode cX19_arriveThanks 227 = .ok (.aload_n 0, 1) := by decide +kernel
theorem dX19_arriveThanks_228 : decode cX19_arriveThanks 228 = .ok (.getfield 143, 3) := by decide +kernel
theorem dX19_arriveThanks_231 : decode cX19_arriveThanks 231 = .ok (.invokevirtual 367, 3) := by decide +kernel
theorem dX19_arriveThanks_234 : decode cX19_arriveThanks 234 = .ok (.goto 43, 3) := by decide +kernel
theorem dX19_arriveThanks_237 : decode cX19_arriveThanks 237 = .ok (.aload_n 1, 1) := by decide +kernel
theorem dX19_arriveThanks_238 : decode cX19_arriveThanks 238 = .ok (.getfield 353, 3) := by decide +kernel
theorem dX19_arriveThanks_241 : decode cX19_arriveThanks 241 = .ok (.bipush 8, 2) := by decide +kernel
theorem dX19_arriveThanks_243 : decode cX19_arriveThanks 243 = .ok (.if_icmp .ne 16, 3) := by decide +kernel
theorem dX19_arriveThanks_246 : decode cX19_arriveThanks 246 = .ok (.aload_n 1, 1) := by decide +kernel
theorem dX19_arriveThanks_247 : decode cX19_arriveThanks 247 = .ok (.bipush 10, 2) := by decide +kernel
theorem dX19_arriveThanks_249 : decode cX19_arriveThanks 249 = .ok (.aload_n 0, 1) := by decide +kernel
theorem dX19_arriveThanks_250 : decode cX19_arriveThanks 250 = .ok (.getfield 143, 3) := by decide +kernel
theorem dX19_arriveThanks_253 : decode cX19_arriveThanks 253 = .ok (.invokevirtual 367, 3) := by decide +kernel
theorem dX19_arriveThanks_256 : decode cX19_arriveThanks 256 = .ok (.goto 21, 3) := by decide +kernel
theorem dX19_arriveThanks_259 : decode cX19_arriveThanks 259 = .ok (.aload_n 1, 1) := by decide +kernel
theorem dX19_arriveThanks_260 : decode cX19_arriveThanks 260 = .ok (.getfield 353, 3) := by decide +kernel
theorem dX19_arriveThanks_263 : decode cX19_arriveThanks 263 = .ok (.bipush 9, 2) := by decide +kernel
theorem dX19_arriveThanks_265 : decode cX19_arriveThanks 265 = .ok (.if_icmp .ne 12, 3) := by decide +kernel
theorem dX19_arriveThanks_268 : decode cX19_arriveThanks 268 = .ok (.aload_n 1, 1) := by decide +kernel
theorem dX19_arriveThanks_269 : decode cX19_arriveThanks 269 = .ok (.iconst 0, 1) := by decide +kernel
theorem dX19_arriveThanks_270 : decode cX19_arriveThanks 270 = .ok (.aload_n 0, 1) := by decide +kernel
theorem dX19_arriveThanks_271 : decode cX19_arriveThanks 271 = .ok (.getfield 143, 3) := by decide +kernel
theorem dX19_arriveThanks_274 : decode cX19_arriveThanks 274 = .ok (.invokevirtual 367, 3) := by decide +kernel
theorem dX19_arriveThanks_277 : decode cX19_arriveThanks 277 = .ok (.return_, 1) := by decide +kernel
theorem dX19_arriveBytes_0 : decode cX19_arriveBytes 0 = .ok (.aload_n 0, 1) := by decide +kernel
theorem dX19_arriveBytes_1 : decode cX19_arriveBytes 1 = .ok (.iload_n 2, 1) := by decide +kernel
theorem dX19_arriveBytes_2 : decode cX19_arriveBytes 2 = .ok (.bipush 7, 2) := by decide +kernel
theorem dX19_arriveBytes_4 : decode cX19_arriveBytes 4 = .ok (.invokevirtual 47, 3) := by decide +kernel
theorem dX19_arriveBytes_7 : decode cX19_arriveBytes 7 = .ok (.istore_n 3, 1) := by decide +kernel
theorem dX19_arriveBytes_8 : decode cX19_arriveBytes 8 = .ok (.aload_n 1, 1) := by decide +kernel
theorem dX19_arriveBytes_9 : decode cX19_arriveBytes 9 = .ok (.getfield 353, 3) := by decide +kernel
theorem dX19_arriveBytes_12 : decode cX19_arriveBytes 12 = .ok (.iconst 4, 1) := by decide +kernel
theorem dX19_arriveBytes_13 : decode cX19_arriveBytes 13 = .ok (.if_icmp .eq 20, 3) := by decide +kernel
theorem dX19_arriveBytes_16 : decode cX19_arriveBytes 16 = .ok (.aload_n 1, 1) := by decide +kernel
theorem dX19_arriveBytes_17 : decode cX19_arriveBytes 17 = .ok (.getfield 353, 3) := by decide +kernel
theorem dX19_arriveBytes_20 : decode cX19_arriveBytes 20 = .ok (.iconst 5, 1) := by decide +kernel
theorem dX19_arriveBytes_21 : decode cX19_arriveBytes 21 = .ok (.if_icmp .eq 12, 3) := by decide +kernel
theorem dX19_arriveBytes_24 : decode cX19_arriveBytes 24 = .ok (.aload_n 1, 1) := by decide +kernel
theorem dX19_arriveBytes_25 : decode cX19_arriveBytes 25 = .ok (.getfield 353, 3) := by decide +kernel
theorem dX19_arriveBytes_28 : decode cX19_arriveBytes 28 = .ok (.bipush 6, 2) := by decide +kernel
theorem dX19_arriveBytes_30 : decode cX19_arriveBytes 30 = .ok (.if_icmp .ne 291, 3) := by decide +kernel
theorem dX19_arriveBytes_33 : decode cX19_arriveBytes 33 = .ok (.aload_n 1, 1) := by decide +kernel
theorem dX19_arriveBytes_34 : decode cX19_arriveBytes 34 = .ok (.invokevirtual 661, 3) := by decide +kernel
theorem dX19_arriveBytes_37 : decode cX19_arriveBytes 37 = .ok (.istore 4, 2) := by decide +kernel
theorem dX19_arriveBytes_39 : decode cX19_arriveBytes 39 = .ok (.aload_n 0, 1) := by decide +kernel
theorem dX19_arriveBytes_40 : decode cX19_arriveBytes 40 = .ok (.iload_n 2, 1) := by decide +kernel
theorem dX19_arriveBytes_41 : decode cX19_arriveBytes 41 = .ok (.iconst 3, 1) := by decide +kernel
theorem dX19_arriveBytes_42 : decode cX19_arriveBytes 42 = .ok (.invokevirtual 47, 3) := by decide +kernel
theorem dX19_arriveBytes_45 : decode cX19_arriveBytes 45 = .ok (.istore 5, 2) := by decide +kernel
theorem dX19_arriveBytes_47 : decode cX19_arriveBytes 47 = .ok (.iconst 0, 1) := by decide +kernel
theorem dX19_arriveBytes_48 : decode cX19_arriveBytes 48 = .ok (.istore 6, 2) := by decide +kernel
theorem dX19_arriveBytes_50 : decode cX19_arriveBytes 50 = .ok (.iload 6, 2) := by decide +kernel
theorem dX19_arriveBytes_52 : decode cX19_arriveBytes 52 = .ok (.iload_n 3, 1) := by decide +kernel
theorem dX19_arriveBytes_53 : decode cX19_arriveBytes 53 = .ok (.if_icmp .ge 76, 3) := by decide +kernel
theorem dX19_arriveBytes_56 : decode cX19_arriveBytes 56 = .ok (.iload 5, 2) := by decide +kernel
theorem dX19_arriveBytes_58 : decode cX19_arriveBytes 58 = .ok (.iload 6, 2) := by decide +kernel
theorem dX19_arriveBytes_60 : decode cX19_arriveBytes 60 = .ok (.iadd, 1) := by decide +kernel
theorem dX19_arriveBytes_61 : decode cX19_arriveBytes 61 = .ok (.aload_n 1, 1) := by decide +kernel
theorem dX19_arriveBytes_62 : decode cX19_arriveBytes 62 = .ok (.getfield 570, 3) := by decide +kernel
theorem dX19_arriveBytes_65 : decode cX19_arriveBytes 65 = .ok (.isub, 1) := by decide +kernel
theorem dX19_arriveBytes_66 : decode cX19_arriveBytes 66 = .ok (.istore 7, 2) := by decide +kernel
theorem dX19_arriveBytes_68 : decode cX19_arriveBytes 68 = .ok (.iload 5, 2) := by decide +kernel
theorem dX19_arriveBytes_70 : decode cX19_arriveBytes 70 = .ok (.iload 6, 2) := by decide +kernel
theorem dX19_arriveBytes_72 : decode cX19_arriveBytes 72 = .ok (.iadd, 1) := by decide +kernel
theorem dX19_arriveBytes_73 : decode cX19_arriveBytes 73 = .ok (.sipush 2047, 3) := by decide +kernel
theorem dX19_arriveBytes_76 : decode cX19_arriveBytes 76 = .ok (.iand, 1) := by decide +kernel
theorem dX19_arriveBytes_77 : decode cX19_arriveBytes 77 = .ok (.istore 8, 2) := by decide +kernel
theorem dX19_arriveBytes_79 : decode cX19_arriveBytes 79 = .ok (.iload 7, 2) := by decide +kernel
theorem dX19_arriveBytes_81 : decode cX19_arriveBytes 81 = .ok (.ifCond .lt 42, 3) := by decide +kernel
theorem dX19_arriveBytes_84 : decode cX19_arriveBytes 84 = .ok (.iload 7, 2) := by decide +kernel
theorem dX19_arriveBytes_86 : decode cX19_arriveBytes 86 = .ok (.iload 4, 2) := by decide +kernel
theorem dX19_arriveBytes_88 : decode cX19_arriveBytes 88 = .ok (.if_icmp .ge 35, 3) := by decide +kernel
theorem dX19_arriveBytes_91 : decode cX19_arriveBytes 91 = .ok (.aload_n 1, 1) := by decide +kernel
theorem dX19_arriveBytes_92 : decode cX19_arriveBytes 92 = .ok (.getfield 664, 3) := by decide +kernel
theorem dX19_arriveBytes_95 : decode cX19_arriveBytes 95 = .ok (.iload 8, 2) := by decide +kernel
theorem dX19_arriveBytes_97 : decode cX19_arriveBytes 97 = .ok (.baload, 1) := by decide +kernel
theorem dX19_arriveBytes_98 : decode cX19_arriveBytes 98 = .ok (.ifCond .ne 25, 3) := by decide +kernel
theorem dX19_arriveBytes_101 : decode cX19_arriveBytes 101 = .ok (.aload_n 1, 1) := by decide +kernel
theorem dX19_arriveBytes_102 : decode cX19_arriveBytes 102 = .ok (.getfield 664, 3) := by decide +kernel
theorem dX19_arriveBytes_105 : decode cX19_arriveBytes 105 = .ok (.iload 8, 2) := by decide +kernel
theorem dX19_arriveBytes_107 : decode cX19_arriveBytes 107 = .ok (.iconst 1, 1) := by decide +kernel
theorem dX19_arriveBytes_108 : decode cX19_arriveBytes 108 = .ok (.bastore, 1) := by decide +kernel
theorem dX19_arriveBytes_109 : decode cX19_arriveBytes 109 = .ok (.aload_n 1, 1) := by decide +kernel
theorem dX19_arriveBytes_110 : decode cX19_arriveBytes 110 = .ok (.getfield 665, 3) := by decide +kernel
theorem dX19_arriveBytes_113 : decode cX19_arriveBytes 113 = .ok (.iload 8, 2) := by decide +kernel
theorem dX19_arriveBytes_115 : decode cX19_arriveBytes 115 = .ok (.aload_n 0, 1) := by decide +kernel
theorem dX19_arriveBytes_116 : decode cX19_arriveBytes 116 = .ok (.iload_n 2, 1) := by decide +kernel
theorem dX19_arriveBytes_117 : decode cX19_arriveBytes 117 = .ok (.iload 6, 2) := by decide +kernel
theorem dX19_arriveBytes_119 : decode cX19_arriveBytes 119 = .ok (.invokevirtual 669, 3) := by decide +kernel
theorem dX19_arriveBytes_122 : decode cX19_arriveBytes 122 = .ok (.bastore, 1) := by decide +kernel
theorem dX19_arriveBytes_123 : decode cX19_arriveBytes 123 = .ok (.iinc 6 1, 3) := by decide +kernel
theorem dX19_arriveBytes_126 : decode cX19_arriveBytes 126 = .ok (.goto (-76), 3) := by decide +kernel
theorem dX19_arriveBytes_129 : decode cX19_arriveBytes 129 = .ok (.iload 5, 2) := by decide +kernel
theorem dX19_arriveBytes_131 : decode cX19_arriveBytes 131 = .ok (.iload_n 3, 1) := by decide +kernel
theorem dX19_arriveBytes_132 : decode cX19_arriveBytes 132 = .ok (.iadd, 1) := by decide +kernel
theorem dX19_arriveBytes_133 : decode cX19_arriveBytes 133 = .ok (.aload_n 1, 1) := by decide +kernel
theorem dX19_arriveBytes_134 : decode cX19_arriveBytes 134 = .ok (.getfield 570, 3) := by decide +kernel
theorem dX19_arriveBytes_137 : decode cX19_arriveBytes 137 = .ok (.isub, 1) := by decide +kernel
theorem dX19_arriveBytes_138 : decode cX19_arriveBytes 138 = .ok (.istore 6, 2) := by decide +kernel
theorem dX19_arriveBytes_140 : decode cX19_arriveBytes 140 = .ok (.aload_n 0, 1) := by decide +kernel
theorem dX19_arriveBytes_141 : decode cX19_arriveBytes 141 = .ok (.iload_n 2, 1) := by decide +kernel
theorem dX19_arriveBytes_142 : decode cX19_arriveBytes 142 = .ok (.iconst 2, 1) := by decide +kernel
theorem dX19_arriveBytes_143 : decode cX19_arriveBytes 143 = .ok (.invokevirtual 61, 3) := by decide +kernel
theorem dX19_arriveBytes_146 : decode cX19_arriveBytes 146 = .ok (.ifCond .eq 35, 3) := by decide +kernel
theorem dX19_arriveBytes_149 : decode cX19_arriveBytes 149 = .ok (.aload_n 1, 1) := by decide +kernel
theorem dX19_arriveBytes_150 : decode cX19_arriveBytes 150 = .ok (.getfield 673, 3) := by decide +kernel
theorem dX19_arriveBytes_153 : decode cX19_arriveBytes 153 = .ok (.ifCond .ne 28, 3) := by decide +kernel
theorem dX19_arriveBytes_156 : decode cX19_arriveBytes 156 = .ok (.iload 6, 2) := by decide +kernel
theorem dX19_arriveBytes_158 : decode cX19_arriveBytes 158 = .ok (.ifCond .lt 23, 3) := by decide +kernel
theorem dX19_arriveBytes_161 : decode cX19_arriveBytes 161 = .ok (.iload 6, 2) := by decide +kernel
theorem dX19_arriveBytes_163 : decode cX19_arriveBytes 163 = .ok (.iload 4, 2) := by decide +kernel
theorem dX19_arriveBytes_165 : decode cX19_arriveBytes 165 = .ok (.if_icmp .ge 16, 3) := by decide +kernel
theorem dX19_arriveBytes_168 : decode cX19_arriveBytes 168 = .ok (.aload_n 1, 1) := by decide +kernel
theorem dX19_arriveBytes_169 : decode cX19_arriveBytes 169 = .ok (.iconst 1, 1) := by decide +kernel
theorem dX19_arriveBytes_170 : decode cX19_arriveBytes 170 = .ok (.putfield 673, 3) := by decide +kernel
theorem dX19_arriveBytes_173 : decode cX19_arriveBytes 173 = .ok (.aload_n 1, 1) := by decide +kernel
theorem dX19_arriveBytes_174 : decode cX19_arriveBytes 174 = .ok (.iload 5, 2) := by decide +kernel
theorem dX19_arriveBytes_176 : decode cX19_arriveBytes 176 = .ok (.iload_n 3, 1) := by decide +kernel
theorem dX19_arriveBytes_177 : decode cX19_arriveBytes 177 = .ok (.iadd, 1) := by decide +kernel
theorem dX19_arriveBytes_178 : decode cX19_arriveBytes 178 = .ok (.putfield 676, 3) := by decide +kernel
theorem dX19_arriveBytes_181 : decode cX19_arriveBytes 181 = .ok (.aload_n 1, 1) := by decide +kernel
theorem dX19_arriveBytes_182 : decode cX19_arriveBytes 182 = .ok (.getfield 664, 3) := by decide +kernel
theorem dX19_arriveBytes_185 : decode cX19_arriveBytes 185 = .ok (.aload_n 1, 1) := by decide +kernel
theorem dX19_arriveBytes_186 : decode cX19_arriveBytes 186 = .ok (.getfield 570, 3) := by decide +kernel
theorem dX19_arriveBytes_189 : decode cX19_arriveBytes 189 = .ok (.sipush 2047, 3) := by decide +kernel
theorem dX19_arriveBytes_192 : decode cX19_arriveBytes 192 = .ok (.iand, 1) := by decide +kernel
theorem dX19_arriveBytes_193 : decode cX19_arriveBytes 193 = .ok (.baload, 1) := by decide +kernel
theorem dX19_arriveBytes_194 : decode cX19_arriveBytes 194 = .ok (.ifCond .eq 58, 3) := by decide +kernel
theorem dX19_arriveBytes_197 : decode cX19_arriveBytes 197 = .ok (.aload_n 1, 1) := by decide +kernel
theorem dX19_arriveBytes_198 : decode cX19_arriveBytes 198 = .ok (.getfield 673, 3) := by decide +kernel
theorem dX19_arriveBytes_201 : decode cX19_arriveBytes 201 = .ok (.ifCond .eq 14, 3) := by decide +kernel
theorem dX19_arriveBytes_204 : decode cX19_arriveBytes 204 = .ok (.aload_n 1, 1) := by decide +kernel
theorem dX19_arriveBytes_205 : decode cX19_arriveBytes 205 = .ok (.getfield 570, 3) := by decide +kernel
theorem dX19_arriveBytes_208 : decode cX19_arriveBytes 208 = .ok (.aload_n 1, 1) := by decide +kernel
theorem dX19_arriveBytes_209 : decode cX19_arriveBytes 209 = .ok (.getfield 676, 3) := by decide +kernel
theorem dX19_arriveBytes_212 : decode cX19_arriveBytes 212 = .ok (.if_icmp .eq 40, 3) := by decide +kernel
theorem dX19_arriveBytes_215 : decode cX19_arriveBytes 215 = .ok (.aload_n 1, 1) := by decide +kernel
theorem dX19_arriveBytes_216 : decode cX19_arriveBytes 216 = .ok (.invokevirtual 679, 3) := by decide +kernel
theorem dX19_arriveBytes_219 : decode cX19_arriveBytes 219 = .ok (.sipush 2048, 3) := by decide +kernel
theorem dX19_arriveBytes_222 : decode cX19_arriveBytes 222 = .ok (.if_icmp .ge 30, 3) := by decide +kernel
theorem dX19_arriveBytes_225 : decode cX19_arriveBytes 225 = .ok (.aload_n 1, 1) := by decide +kernel
theorem dX19_arriveBytes_226 : decode cX19_arriveBytes 226 = .ok (.getfield 664, 3) := by decide +kernel
theorem dX19_arriveBytes_229 : decode cX19_arriveBytes 229 = .ok (.aload_n 1, 1) := by decide +kernel
theorem dX19_arriveBytes_230 : decode cX19_arriveBytes 230 = .ok (.getfield 570, 3) := by decide +kernel
theorem dX19_arriveBytes_233 : decode cX19_arriveBytes 233 = .ok (.sipush 2047, 3) := by decide +kernel
theorem dX19_arriveBytes_236 : decode cX19_arriveBytes 236 = .ok (.iand, 1) := by decide +kernel
theorem dX19_arriveBytes_237 : decode cX19_arriveBytes 237 = .ok (.iconst 0, 1) := by decide +kernel
theorem dX19_arriveBytes_238 : decode cX19_arriveBytes 238 = .ok (.bastore, 1) := by decide +kernel
theorem dX19_arriveBytes_239 : decode cX19_arriveBytes 239 = .ok (.aload_n 1, 1) := by decide +kernel
theorem dX19_arriveBytes_240 : decode cX19_arriveBytes 240 = .ok (.dup, 1) := by decide +kernel
theorem dX19_arriveBytes_241 : decode cX19_arriveBytes 241 = .ok (.getfield 570, 3) := by decide +kernel
theorem dX19_arriveBytes_244 : decode cX19_arriveBytes 244 = .ok (.iconst 1, 1) := by decide +kernel
theorem dX19_arriveBytes_245 : decode cX19_arriveBytes 245 = .ok (.iadd, 1) := by decide +kernel
theorem dX19_arriveBytes_246 : decode cX19_arriveBytes 246 = .ok (.putfield 570, 3) := by decide +kernel
theorem dX19_arriveBytes_249 : decode cX19_arriveBytes 249 = .ok (.goto (-68), 3) := by decide +kernel
theorem dX19_arriveBytes_252 : decode cX19_arriveBytes 252 = .ok (.aload_n 1, 1) := by decide +kernel
theorem dX19_arriveBytes_253 : decode cX19_arriveBytes 253 = .ok (.getfield 673, 3) := by decide +kernel
theorem dX19_arriveBytes_256 : decode cX19_arriveBytes 256 = .ok (.ifCond .eq 65, 3) := by decide +kernel
theorem dX19_arriveBytes_259 : decode cX19_arriveBytes 259 = .ok (.aload_n 1, 1) := by decide +kernel
theorem dX19_arriveBytes_260 : decode cX19_arriveBytes 260 = .ok (.getfield 570, 3) := by decide +kernel
theorem dX19_arriveBytes_263 : decode cX19_arriveBytes 263 = .ok (.aload_n 1, 1) := by decide +kernel
theorem dX19_arriveBytes_264 : decode cX19_arriveBytes 264 = .ok (.getfield 676, 3) := by decide +kernel
theorem dX19_arriveBytes_267 : decode cX19_arriveBytes 267 = .ok (.if_icmp .ne 54, 3) := by decide +kernel
theorem dX19_arriveBytes_270 : decode cX19_arriveBytes 270 = .ok (.aload_n 1, 1) := by decide +kernel
theorem dX19_arriveBytes_271 : decode cX19_arriveBytes 271 = .ok (.iconst 1, 1) := by decide +kernel
theorem dX19_arriveBytes_272 : decode cX19_arriveBytes 272 = .ok (.putfield 682, 3) := by decide +kernel
theorem dX19_arriveBytes_275 : decode cX19_arriveBytes 275 = .ok (.aload_n 1, 1) := by decide +kernel
theorem dX19_arriveBytes_276 : decode cX19_arriveBytes 276 = .ok (.dup, 1) := by decide +kernel
theorem dX19_arriveBytes_277 : decode cX19_arriveBytes 277 = .ok (.getfield 570, 3) := by decide +kernel
theorem dX19_arriveBytes_280 : decode cX19_arriveBytes 280 = .ok (.iconst 1, 1) := by decide +kernel
theorem dX19_arriveBytes_281 : decode cX19_arriveBytes 281 = .ok (.iadd, 1) := by decide +kernel
theorem dX19_arriveBytes_282 : decode cX19_arriveBytes 282 = .ok (.putfield 570, 3) := by decide +kernel
theorem dX19_arriveBytes_285 : decode cX19_arriveBytes 285 = .ok (.aload_n 1, 1) := by decide +kernel
theorem dX19_arriveBytes_286 : decode cX19_arriveBytes 286 = .ok (.aload_n 1, 1) := by decide +kernel
theorem dX19_arriveBytes_287 : decode cX19_arriveBytes 287 = .ok (.getfield 353, 3) := by decide +kernel
theorem dX19_arriveBytes_290 : decode cX19_arriveBytes 290 = .ok (.iconst 4, 1) := by decide +kernel
theorem dX19_arriveBytes_291 : decode cX19_arriveBytes 291 = .ok (.if_icmp .ne 8, 3) := by decide +kernel
theorem dX19_arriveBytes_294 : decode cX19_arriveBytes 294 = .ok (.bipush 7, 2) := by decide +kernel
theorem dX19_arriveBytes_296 : decode cX19_arriveBytes 296 = .ok (.goto 18, 3) := by decide +kernel
theorem dX19_arriveBytes_299 : decode cX19_arriveBytes 299 = .ok (.aload_n 1, 1) := by decide +kernel
theorem dX19_arriveBytes_300 : decode cX19_arriveBytes 300 = .ok (.getfield 353, 3) := by decide +kernel
theorem dX19_arriveBytes_303 : decode cX19_arriveBytes 303 = .ok (.iconst 5, 1) := by decide +kernel
theorem dX19_arriveBytes_304 : decode cX19_arriveBytes 304 = .ok (.if_icmp .ne 8, 3) := by decide +kernel
theorem dX19_arriveBytes_307 : decode cX19_arriveBytes 307 = .ok (.bipush 8, 2) := by decide +kernel
theorem dX19_arriveBytes_309 : decode cX19_arriveBytes 309 = .ok (.goto 5, 3) := by decide +kernel
theorem dX19_arriveBytes_312 : decode cX19_arriveBytes 312 = .ok (.bipush 10, 2) := by decide +kernel
theorem dX19_arriveBytes_314 : decode cX19_arriveBytes 314 = .ok (.aload_n 0, 1) := by decide +kernel
theorem dX19_arriveBytes_315 : decode cX19_arriveBytes 315 = .ok (.getfield 143, 3) := by decide +kernel
theorem dX19_arriveBytes_318 : decode cX19_arriveBytes 318 = .ok (.invokevirtual 367, 3) := by decide +kernel
theorem dX19_arriveBytes_321 : decode cX19_arriveBytes 321 = .ok (.iload_n 3, 1) := by decide +kernel
theorem dX19_arriveBytes_322 : decode cX19_arriveBytes 322 = .ok (.ifCond .gt 12, 3) := by decide +kernel
theorem dX19_arriveBytes_325 : decode cX19_arriveBytes 325 = .ok (.aload_n 0, 1) := by decide +kernel
theorem dX19_arriveBytes_326 : decode cX19_arriveBytes 326 = .ok (.iload_n 2, 1) := by decide +kernel
theorem dX19_arriveBytes_327 : decode cX19_arriveBytes 327 = .ok (.iconst 2, 1) := by decide +kernel
theorem dX19_arriveBytes_328 : decode cX19_arriveBytes 328 = .ok (.invokevirtual 61, 3) := by decide +kernel
theorem dX19_arriveBytes_331 : decode cX19_arriveBytes 331 = .ok (.ifCond .eq 8, 3) := by decide +kernel
theorem dX19_arriveBytes_334 : decode cX19_arriveBytes 334 = .ok (.aload_n 1, 1) := by decide +kernel
theorem dX19_arriveBytes_335 : decode cX19_arriveBytes 335 = .ok (.iconst 1, 1) := by decide +kernel
theorem dX19_arriveBytes_336 : decode cX19_arriveBytes 336 = .ok (.putfield 616, 3) := by decide +kernel
theorem dX19_arriveBytes_339 : decode cX19_arriveBytes 339 = .ok (.return_, 1) := by decide +kernel
theorem dX19_toldBy_0 : decode cX19_toldBy 0 = .ok (.aload_n 0, 1) := by decide +kernel
theorem dX19_toldBy_1 : decode cX19_toldBy 1 = .ok (.aload_n 1, 1) := by decide +kernel
theorem dX19_toldBy_2 : decode cX19_toldBy 2 = .ok (.getfield 567, 3) := by decide +kernel
theorem dX19_toldBy_5 : decode cX19_toldBy 5 = .ok (.ifCond .eq 10, 3) := by decide +kernel
theorem dX19_toldBy_8 : decode cX19_toldBy 8 = .ok (.iload_n 2, 1) := by decide +kernel
theorem dX19_toldBy_9 : decode cX19_toldBy 9 = .ok (.bipush 8, 2) := by decide +kernel
theorem dX19_toldBy_11 : decode cX19_toldBy 11 = .ok (.ior, 1) := by decide +kernel
theorem dX19_toldBy_12 : decode cX19_toldBy 12 = .ok (.goto 4, 3) := by decide +kernel
theorem dX19_toldBy_15 : decode cX19_toldBy 15 = .ok (.iload_n 2, 1) := by decide +kernel
theorem dX19_toldBy_16 : decode cX19_toldBy 16 = .ok (.iload_n 3, 1) := by decide +kernel
theorem dX19_toldBy_17 : decode cX19_toldBy 17 = .ok (.invokevirtual 685, 3) := by decide +kernel
theorem dX19_toldBy_20 : decode cX19_toldBy 20 = .ok (.istore 5, 2) := by decide +kernel
theorem dX19_toldBy_22 : decode cX19_toldBy 22 = .ok (.aload_n 0, 1) := by decide +kernel
theorem dX19_toldBy_23 : decode cX19_toldBy 23 = .ok (.iload 5, 2) := by decide +kernel
theorem dX19_toldBy_25 : decode cX19_toldBy 25 = .ok (.iconst 4, 1) := by decide +kernel
theorem dX19_toldBy_26 : decode cX19_toldBy 26 = .ok (.aload_n 1, 1) := by decide +kernel
theorem dX19_toldBy_27 : decode cX19_toldBy 27 = .ok (.getfield 567, 3) := by decide +kernel
theorem dX19_toldBy_30 : decode cX19_toldBy 30 = .ok (.ifCond .eq 10, 3) := by decide +kernel
theorem dX19_toldBy_33 : decode cX19_toldBy 33 = .ok (.aload_n 1, 1) := by decide +kernel
theorem dX19_toldBy_34 : decode cX19_toldBy 34 = .ok (.getfield 570, 3) := by decide +kernel
theorem dX19_toldBy_37 : decode cX19_toldBy 37 = .ok (.goto 4, 3) := by decide +kernel
theorem dX19_toldBy_40 : decode cX19_toldBy 40 = .ok (.iconst 0, 1) := by decide +kernel
theorem dX19_toldBy_41 : decode cX19_toldBy 41 = .ok (.invokevirtual 44, 3) := by decide +kernel
theorem dX19_toldBy_44 : decode cX19_toldBy 44 = .ok (.aload_n 0, 1) := by decide +kernel
theorem dX19_toldBy_45 : decode cX19_toldBy 45 = .ok (.iload 5, 2) := by decide +kernel
theorem dX19_toldBy_47 : decode cX19_toldBy 47 = .ok (.iconst 5, 1) := by decide +kernel
theorem dX19_toldBy_48 : decode cX19_toldBy 48 = .ok (.aload_n 1, 1) := by decide +kernel
theorem dX19_toldBy_49 : decode cX19_toldBy 49 = .ok (.invokevirtual 661, 3) := by decide +kernel
theorem dX19_toldBy_52 : decode cX19_toldBy 52 = .ok (.invokevirtual 44, 3) := by decide +kernel
theorem dX19_toldBy_55 : decode cX19_toldBy 55 = .ok (.aload_n 0, 1) := by decide +kernel
theorem dX19_toldBy_56 : decode cX19_toldBy 56 = .ok (.iload 5, 2) := by decide +kernel
theorem dX19_toldBy_58 : decode cX19_toldBy 58 = .ok (.bipush 7, 2) := by decide +kernel
theorem dX19_toldBy_60 : decode cX19_toldBy 60 = .ok (.iload 4, 2) := by decide +kernel
theorem dX19_toldBy_62 : decode cX19_toldBy 62 = .ok (.invokevirtual 44, 3) := by decide +kernel
theorem dX19_toldBy_65 : decode cX19_toldBy 65 = .ok (.iconst 0, 1) := by decide +kernel
theorem dX19_toldBy_66 : decode cX19_toldBy 66 = .ok (.istore 6, 2) := by decide +kernel
theorem dX19_toldBy_68 : decode cX19_toldBy 68 = .ok (.iload 6, 2) := by decide +kernel
theorem dX19_toldBy_70 : decode cX19_toldBy 70 = .ok (.iload 4, 2) := by decide +kernel
theorem dX19_toldBy_72 : decode cX19_toldBy 72 = .ok (.if_icmp .ge 37, 3) := by decide +kernel
theorem dX19_toldBy_75 : decode cX19_toldBy 75 = .ok (.aload_n 0, 1) := by decide +kernel
theorem dX19_toldBy_76 : decode cX19_toldBy 76 = .ok (.iload 5, 2) := by decide +kernel
theorem dX19_toldBy_78 : decode cX19_toldBy 78 = .ok (.iload 6, 2) := by decide +kernel
theorem dX19_toldBy_80 : decode cX19_toldBy 80 = .ok (.aload_n 1, 1) := by decide +kernel
theorem dX19_toldBy_81 : decode cX19_toldBy 81 = .ok (.getfield 688, 3) := by decide +kernel
theorem dX19_toldBy_84 : decode cX19_toldBy 84 = .ok (.iload_n 3, 1) := by decide +kernel
theorem dX19_toldBy_85 : decode cX19_toldBy 85 = .ok (.iload 6, 2) := by decide +kernel
theorem dX19_toldBy_87 : decode cX19_toldBy 87 = .ok (.iadd, 1) := by decide +kernel
theorem dX19_toldBy_88 : decode cX19_toldBy 88 = .ok (.aload_n 1, 1) := by decide +kernel
theorem dX19_toldBy_89 : decode cX19_toldBy 89 = .ok (.getfield 588, 3) := by decide +kernel
theorem dX19_toldBy_92 : decode cX19_toldBy 92 = .ok (.iconst 1, 1) := by decide +kernel
theorem dX19_toldBy_93 : decode cX19_toldBy 93 = .ok (.iadd, 1) := by decide +kernel
theorem dX19_toldBy_94 : decode cX19_toldBy 94 = .ok (.isub, 1) := by decide +kernel
theorem dX19_toldBy_95 : decode cX19_toldBy 95 = .ok (.sipush 2047, 3) := by decide +kernel
theorem dX19_toldBy_98 : decode cX19_toldBy 98 = .ok (.iand, 1) := by decide +kernel
theorem dX19_toldBy_99 : decode cX19_toldBy 99 = .ok (.baload, 1) := by decide +kernel
theorem dX19_toldBy_100 : decode cX19_toldBy 100 = .ok (.invokevirtual 691, 3) := by decide +kernel
theorem dX19_toldBy_103 : decode cX19_toldBy 103 = .ok (.iinc 6 1, 3) := by decide +kernel
theorem dX19_toldBy_106 : decode cX19_toldBy 106 = .ok (.goto (-38), 3) := by decide +kernel
theorem dX19_toldBy_109 : decode cX19_toldBy 109 = .ok (.aload_n 1, 1) := by decide +kernel
theorem dX19_toldBy_110 : decode cX19_toldBy 110 = .ok (.aload_n 1, 1) := by decide +kernel
theorem dX19_toldBy_111 : decode cX19_toldBy 111 = .ok (.getfield 616, 3) := by decide +kernel
theorem dX19_toldBy_114 : decode cX19_toldBy 114 = .ok (.ifCond .eq 14, 3) := by decide +kernel
theorem dX19_toldBy_117 : decode cX19_toldBy 117 = .ok (.aload_n 1, 1) := by decide +kernel
theorem dX19_toldBy_118 : decode cX19_toldBy 118 = .ok (.getfield 567, 3) := by decide +kernel
theorem dX19_toldBy_121 : decode cX19_toldBy 121 = .ok (.ifCond .ne 7, 3) := by decide +kernel
theorem dX19_toldBy_124 : decode cX19_toldBy 124 = .ok (.iconst 1, 1) := by decide +kernel
theorem dX19_toldBy_125 : decode cX19_toldBy 125 = .ok (.goto 4, 3) := by decide +kernel
theorem dX19_toldBy_128 : decode cX19_toldBy 128 = .ok (.iconst 0, 1) := by decide +kernel
theorem dX19_toldBy_129 : decode cX19_toldBy 129 = .ok (.putfield 616, 3) := by decide +kernel
theorem dX19_toldBy_132 : decode cX19_toldBy 132 = .ok (.iload 5, 2) := by decide +kernel
theorem dX19_toldBy_134 : decode cX19_toldBy 134 = .ok (.ireturn, 1) := by decide +kernel
theorem dX19_send_0 : decode cX19_send 0 = .ok (.aload_n 1, 1) := by decide +kernel
theorem dX19_send_1 : decode cX19_send 1 = .ok (.getfield 694, 3) := by decide +kernel
theorem dX19_send_4 : decode cX19_send 4 = .ok (.ifCond .eq 33, 3) := by decide +kernel
theorem dX19_send_7 : decode cX19_send 7 = .ok (.aload_n 1, 1) := by decide +kernel
theorem dX19_send_8 : decode cX19_send 8 = .ok (.iconst 0, 1) := by decide +kernel
theorem dX19_send_9 : decode cX19_send 9 = .ok (.putfield 694, 3) := by decide +kernel
theorem dX19_send_12 : decode cX19_send 12 = .ok (.aload_n 0, 1) := by decide +kernel
theorem dX19_send_13 : decode cX19_send 13 = .ok (.aload_n 1, 1) := by decide +kernel
theorem dX19_send_14 : decode cX19_send 14 = .ok (.getfield 697, 3) := by decide +kernel
theorem dX19_send_17 : decode cX19_send 17 = .ok (.aload_n 1, 1) := by decide +kernel
theorem dX19_send_18 : decode cX19_send 18 = .ok (.getfield 700, 3) := by decide +kernel
theorem dX19_send_21 : decode cX19_send 21 = .ok (.invokevirtual 685, 3) := by decide +kernel
theorem dX19_send_24 : decode cX19_send 24 = .ok (.istore_n 2, 1) := by decide +kernel
theorem dX19_send_25 : decode cX19_send 25 = .ok (.aload_n 0, 1) := by decide +kernel
theorem dX19_send_26 : decode cX19_send 26 = .ok (.iload_n 2, 1) := by decide +kernel
theorem dX19_send_27 : decode cX19_send 27 = .ok (.iconst 4, 1) := by decide +kernel
theorem dX19_send_28 : decode cX19_send 28 = .ok (.aload_n 1, 1) := by decide +kernel
theorem dX19_send_29 : decode cX19_send 29 = .ok (.getfield 703, 3) := by decide +kernel
theorem dX19_send_32 : decode cX19_send 32 = .ok (.invokevirtual 44, 3) := by decide +kernel
theorem dX19_send_35 : decode cX19_send 35 = .ok (.iload_n 2, 1) := by decide +kernel
theorem dX19_send_36 : decode cX19_send 36 = .ok (.ireturn, 1) := by decide +kernel
theorem dX19_send_37 : decode cX19_send 37 = .ok (.aload_n 1, 1) := by decide +kernel
theorem dX19_send_38 : decode cX19_send 38 = .ok (.getfield 613, 3) := by decide +kernel
theorem dX19_send_41 : decode cX19_send 41 = .ok (.ifCond .eq 9, 3) := by decide +kernel
theorem dX19_send_44 : decode cX19_send 44 = .ok (.aload_n 0, 1) := by decide +kernel
theorem dX19_send_45 : decode cX19_send 45 = .ok (.aload_n 1, 1) := by decide +kernel
theorem dX19_send_46 : decode cX19_send 46 = .ok (.invokevirtual 706, 3) := by decide +kernel
theorem dX19_send_49 : decode cX19_send 49 = .ok (.ireturn, 1) := by decide +kernel
theorem dX19_send_50 : decode cX19_send 50 = .ok (.aload_n 1, 1) := by decide +kernel
theorem dX19_send_51 : decode cX19_send 51 = .ok (.getfield 710, 3) := by decide +kernel
theorem dX19_send_54 : decode cX19_send 54 = .ok (.ifCond .eq 82, 3) := by decide +kernel
theorem dX19_send_57 : decode cX19_send 57 = .ok (.aload_n 1, 1) := by decide +kernel
theorem dX19_send_58 : decode cX19_send 58 = .ok (.iconst 0, 1) := by decide +kernel
theorem dX19_send_59 : decode cX19_send 59 = .ok (.putfield 710, 3) := by decide +kernel
theorem dX19_send_62 : decode cX19_send 62 = .ok (.aload_n 1, 1) := by decide +kernel
theorem dX19_send_63 : decode cX19_send 63 = .ok (.iconst 0, 1) := by decide +kernel
theorem dX19_send_64 : decode cX19_send 64 = .ok (.putfield 713, 3) := by decide +kernel
theorem dX19_send_67 : decode cX19_send 67 = .ok (.aload_n 1, 1) := by decide +kernel
theorem dX19_send_68 : decode cX19_send 68 = .ok (.invokevirtual 716, 3) := by decide +kernel
theorem dX19_send_71 : decode cX19_send 71 = .ok (.ifCond .eq 10, 3) := by decide +kernel
theorem dX19_send_74 : decode cX19_send 74 = .ok (.aload_n 1, 1) := by decide +kernel
theorem dX19_send_75 : decode cX19_send 75 = .ok (.getfield 658, 3) := by decide +kernel
theorem dX19_send_78 : decode cX19_send 78 = .ok (.goto 7, 3) := by decide +kernel
theorem dX19_send_81 : decode cX19_send 81 = .ok (.aload_n 1, 1) := by decide +kernel
theorem dX19_send_82 : decode cX19_send 82 = .ok (.getfield 600, 3) := by decide +kernel
theorem dX19_send_85 : decode cX19_send 85 = .ok (.aload_n 1, 1) := by decide +kernel
theorem dX19_send_86 : decode cX19_send 86 = .ok (.getfield 646, 3) := by decide +kernel
theorem dX19_send_89 : decode cX19_send 89 = .ok (.isub, 1) := by decide +kernel
theorem dX19_send_90 : decode cX19_send 90 = .ok (.istore_n 2, 1) := by decide +kernel
theorem dX19_send_91 : decode cX19_send 91 = .ok (.iload_n 2, 1) := by decide +kernel
theorem dX19_send_92 : decode cX19_send 92 = .ok (.aload_n 1, 1) := by decide +kernel
theorem dX19_send_93 : decode cX19_send 93 = .ok (.getfield 579, 3) := by decide +kernel
theorem dX19_send_96 : decode cX19_send 96 = .ok (.if_icmp .ge 7, 3) := by decide +kernel
theorem dX19_send_99 : decode cX19_send 99 = .ok (.iload_n 2, 1) := by decide +kernel
theorem dX19_send_100 : decode cX19_send 100 = .ok (.goto 7, 3) := by decide +kernel
theorem dX19_send_103 : decode cX19_send 103 = .ok (.aload_n 1, 1) := by decide +kernel
theorem dX19_send_104 : decode cX19_send 104 = .ok (.getfield 579, 3) := by decide +kernel
theorem dX19_send_107 : decode cX19_send 107 = .ok (.istore_n 3, 1) := by decide +kernel
theorem dX19_send_108 : decode cX19_send 108 = .ok (.aload_n 0, 1) := by decide +kernel
theorem dX19_send_109 : decode cX19_send 109 = .ok (.aload_n 1, 1) := by decide +kernel
theorem dX19_send_110 : decode cX19_send 110 = .ok (.aload_n 1, 1) := by decide +kernel
theorem dX19_send_111 : decode cX19_send 111 = .ok (.invokevirtual 716, 3) := by decide +kernel
theorem dX19_send_114 : decode cX19_send 114 = .ok (.ifCond .eq 12, 3) := by decide +kernel
theorem dX19_send_117 : decode cX19_send 117 = .ok (.iload_n 3, 1) := by decide +kernel
theorem dX19_send_118 : decode cX19_send 118 = .ok (.iload_n 2, 1) := by decide +kernel
theorem dX19_send_119 : decode cX19_send 119 = .ok (.if_icmp .ne 7, 3) := by decide +kernel
theorem dX19_send_122 : decode cX19_send 122 = .ok (.iconst 2, 1) := by decide +kernel
theorem dX19_send_123 : decode cX19_send 123 = .ok (.goto 4, 3) := by decide +kernel
theorem dX19_send_126 : decode cX19_send 126 = .ok (.iconst 0, 1) := by decide +kernel
theorem dX19_send_127 : decode cX19_send 127 = .ok (.aload_n 1, 1) := by decide +kernel
theorem dX19_send_128 : decode cX19_send 128 = .ok (.getfield 646, 3) := by decide +kernel
theorem dX19_send_131 : decode cX19_send 131 = .ok (.iload_n 3, 1) := by decide +kernel
theorem dX19_send_132 : decode cX19_send 132 = .ok (.invokevirtual 719, 3) := by decide +kernel
theorem dX19_send_135 : decode cX19_send 135 = .ok (.ireturn, 1) := by decide +kernel
theorem dX19_send_136 : decode cX19_send 136 = .ok (.aload_n 0, 1) := by decide +kernel
theorem dX19_send_137 : decode cX19_send 137 = .ok (.aload_n 1, 1) := by decide +kernel
theorem dX19_send_138 : decode cX19_send 138 = .ok (.invokevirtual 723, 3) := by decide +kernel
theorem dX19_send_141 : decode cX19_send 141 = .ok (.istore_n 2, 1) := by decide +kernel
theorem dX19_send_142 : decode cX19_send 142 = .ok (.iload_n 2, 1) := by decide +kernel
theorem dX19_send_143 : decode cX19_send 143 = .ok (.iconst (-1), 1) := by decide +kernel
theorem dX19_send_144 : decode cX19_send 144 = .ok (.if_icmp .eq 5, 3) := by decide +kernel
theorem dX19_send_147 : decode cX19_send 147 = .ok (.iload_n 2, 1) := by decide +kernel
theorem dX19_send_148 : decode cX19_send 148 = .ok (.ireturn, 1) := by decide +kernel
theorem dX19_send_149 : decode cX19_send 149 = .ok (.aload_n 1, 1) := by decide +kernel
theorem dX19_send_150 : decode cX19_send 150 = .ok (.getfield 652, 3) := by decide +kernel
theorem dX19_send_153 : decode cX19_send 153 = .ok (.ifCond .eq 77, 3) := by decide +kernel
theorem dX19_send_156 : decode cX19_send 156 = .ok (.aload_n 1, 1) := by decide +kernel
theorem dX19_send_157 : decode cX19_send 157 = .ok (.iconst 0, 1) := by decide +kernel
theorem dX19_send_158 : decode cX19_send 158 = .ok (.putfield 652, 3) := by decide +kernel
theorem dX19_send_161 : decode cX19_send 161 = .ok (.aload_n 1, 1) := by decide +kernel
theorem dX19_send_162 : decode cX19_send 162 = .ok (.invokevirtual 726, 3) := by decide +kernel
theorem dX19_send_165 : decode cX19_send 165 = .ok (.ifCond .eq 65, 3) := by decide +kernel
theorem dX19_send_168 : decode cX19_send 168 = .ok (.aload_n 1, 1) := by decide +kernel
theorem dX19_send_169 : decode cX19_send 169 = .ok (.getfield 600, 3) := by decide +kernel
theorem dX19_send_172 : decode cX19_send 172 = .ok (.aload_n 1, 1) := by decide +kernel
theorem dX19_send_173 : decode cX19_send 173 = .ok (.getfield 658, 3) := by decide +kernel
theorem dX19_send_176 : decode cX19_send 176 = .ok (.invokestatic 637, 3) := by decide +kernel
theorem dX19_send_179 : decode cX19_send 179 = .ok (.ifCond .eq 7, 3) := by decide +kernel
theorem dX19_send_182 : decode cX19_send 182 = .ok (.iconst 1, 1) := by decide +kernel
theorem dX19_send_183 : decode cX19_send 183 = .ok (.goto 4, 3) := by decide +kernel
theorem dX19_send_186 : decode cX19_send 186 = .ok (.iconst 0, 1) := by decide +kernel
theorem dX19_send_187 : decode cX19_send 187 = .ok (.istore_n 3, 1) := by decide +kernel
theorem dX19_send_188 : decode cX19_send 188 = .ok (.aload_n 0, 1) := by decide +kernel
theorem dX19_send_189 : decode cX19_send 189 = .ok (.aload_n 1, 1) := by decide +kernel
theorem dX19_send_190 : decode cX19_send 190 = .ok (.iload_n 3, 1) := by decide +kernel
theorem dX19_send_191 : decode cX19_send 191 = .ok (.ifCond .ne 7, 3) := by decide +kernel
theorem dX19_send_194 : decode cX19_send 194 = .ok (.iconst 2, 1) := by decide +kernel
theorem dX19_send_195 : decode cX19_send 195 = .ok (.goto 4, 3) := by decide +kernel
theorem dX19_send_198 : decode cX19_send 198 = .ok (.iconst 0, 1) := by decide +kernel
theorem dX19_send_199 : decode cX19_send 199 = .ok (.aload_n 1, 1) := by decide +kernel
theorem dX19_send_200 : decode cX19_send 200 = .ok (.getfield 600, 3) := by decide +kernel
theorem dX19_send_203 : decode cX19_send 203 = .ok (.iload_n 3, 1) := by decide +kernel
theorem dX19_send_204 : decode cX19_send 204 = .ok (.invokevirtual 719, 3) := by decide +kernel
theorem dX19_send_207 : decode cX19_send 207 = .ok (.istore 4, 2) := by decide +kernel
theorem dX19_send_209 : decode cX19_send 209 = .ok (.aload_n 1, 1) := by decide +kernel
theorem dX19_send_210 : decode cX19_send 210 = .ok (.dup, 1) := by decide +kernel
theorem dX19_send_211 : decode cX19_send 211 = .ok (.getfield 600, 3) := by decide +kernel
theorem dX19_send_214 : decode cX19_send 214 = .ok (.iconst 1, 1) := by decide +kernel
theorem dX19_send_215 : decode cX19_send 215 = .ok (.iadd, 1) := by decide +kernel
theorem dX19_send_216 : decode cX19_send 216 = .ok (.putfield 600, 3) := by decide +kernel
theorem dX19_send_219 : decode cX19_send 219 = .ok (.aload_n 1, 1) := by decide +kernel
theorem dX19_send_220 : decode cX19_send 220 = .ok (.aload_n 0, 1) := by decide +kernel
theorem dX19_send_221 : decode cX19_send 221 = .ok (.getfield 143, 3) := by decide +kernel
theorem dX19_send_224 : decode cX19_send 224 = .ok (.invokevirtual 729, 3) := by decide +kernel
theorem dX19_send_227 : decode cX19_send 227 = .ok (.iload 4, 2) := by decide +kernel
theorem dX19_send_229 : decode cX19_send 229 = .ok (.ireturn, 1) := by decide +kernel
theorem dX19_send_230 : decode cX19_send 230 = .ok (.aload_n 1, 1) := by decide +kernel
theorem dX19_send_231 : decode cX19_send 231 = .ok (.getfield 616, 3) := by decide +kernel
theorem dX19_send_234 : decode cX19_send 234 = .ok (.ifCond .eq 17, 3) := by decide +kernel
theorem dX19_send_237 : decode cX19_send 237 = .ok (.aload_n 0, 1) := by decide +kernel
theorem dX19_send_238 : decode cX19_send 238 = .ok (.aload_n 1, 1) := by decide +kernel
theorem dX19_send_239 : decode cX19_send 239 = .ok (.iconst 0, 1) := by decide +kernel
theorem dX19_send_240 : decode cX19_send 240 = .ok (.aload_n 1, 1) := by decide +kernel
theorem dX19_send_241 : decode cX19_send 241 = .ok (.getfield 600, 3) := by decide +kernel
theorem dX19_send_244 : decode cX19_send 244 = .ok (.iconst 0, 1) := by decide +kernel
theorem dX19_send_245 : decode cX19_send 245 = .ok (.invokevirtual 719, 3) := by decide +kernel
theorem dX19_send_248 : decode cX19_send 248 = .ok (.goto 4, 3) := by decide +kernel
theorem dX19_send_251 : decode cX19_send 251 = .ok (.iconst (-1), 1) := by decide +kernel
theorem dX19_send_252 : decode cX19_send 252 = .ok (.ireturn, 1) := by decide +kernel
theorem dX19_sendOpen_0 : decode cX19_sendOpen 0 = .ok (.aload_n 1, 1) := by decide +kernel
theorem dX19_sendOpen_1 : decode cX19_sendOpen 1 = .ok (.iconst 0, 1) := by decide +kernel
theorem dX19_sendOpen_2 : decode cX19_sendOpen 2 = .ok (.putfield 613, 3) := by decide +kernel
theorem dX19_sendOpen_5 : decode cX19_sendOpen 5 = .ok (.aload_n 0, 1) := by decide +kernel
theorem dX19_sendOpen_6 : decode cX19_sendOpen 6 = .ok (.aload_n 1, 1) := by decide +kernel
theorem dX19_sendOpen_7 : decode cX19_sendOpen 7 = .ok (.iconst 1, 1) := by decide +kernel
theorem dX19_sendOpen_8 : decode cX19_sendOpen 8 = .ok (.aload_n 1, 1) := by decide +kernel
theorem dX19_sendOpen_9 : decode cX19_sendOpen 9 = .ok (.getfield 588, 3) := by decide +kernel
theorem dX19_sendOpen_12 : decode cX19_sendOpen 12 = .ok (.iconst 0, 1) := by decide +kernel
theorem dX19_sendOpen_13 : decode cX19_sendOpen 13 = .ok (.invokevirtual 719, 3) := by decide +kernel
theorem dX19_sendOpen_16 : decode cX19_sendOpen 16 = .ok (.istore_n 2, 1) := by decide +kernel
theorem dX19_sendOpen_17 : decode cX19_sendOpen 17 = .ok (.aload_n 0, 1) := by decide +kernel
theorem dX19_sendOpen_18 : decode cX19_sendOpen 18 = .ok (.iload_n 2, 1) := by decide +kernel
theorem dX19_sendOpen_19 : decode cX19_sendOpen 19 = .ok (.bipush 6, 2) := by decide +kernel
theorem dX19_sendOpen_21 : decode cX19_sendOpen 21 = .ok (.aload_n 1, 1) := by decide +kernel
theorem dX19_sendOpen_22 : decode cX19_sendOpen 22 = .ok (.getfield 576, 3) := by decide +kernel
theorem dX19_sendOpen_25 : decode cX19_sendOpen 25 = .ok (.invokevirtual 44, 3) := by decide +kernel
theorem dX19_sendOpen_28 : decode cX19_sendOpen 28 = .ok (.aload_n 0, 1) := by decide +kernel
theorem dX19_sendOpen_29 : decode cX19_sendOpen 29 = .ok (.iload_n 2, 1) := by decide +kernel
theorem dX19_sendOpen_30 : decode cX19_sendOpen 30 = .ok (.bipush 8, 2) := by decide +kernel
theorem dX19_sendOpen_32 : decode cX19_sendOpen 32 = .ok (.aload_n 1, 1) := by decide +kernel
theorem dX19_sendOpen_33 : decode cX19_sendOpen 33 = .ok (.getfield 732, 3) := by decide +kernel
theorem dX19_sendOpen_36 : decode cX19_sendOpen 36 = .ok (.invokevirtual 44, 3) := by decide +kernel
theorem dX19_sendOpen_39 : decode cX19_sendOpen 39 = .ok (.aload_n 0, 1) := by decide +kernel
theorem dX19_sendOpen_40 : decode cX19_sendOpen 40 = .ok (.iload_n 2, 1) := by decide +kernel
theorem dX19_sendOpen_41 : decode cX19_sendOpen 41 = .ok (.bipush 9, 2) := by decide +kernel
theorem dX19_sendOpen_43 : decode cX19_sendOpen 43 = .ok (.aload_n 0, 1) := by decide +kernel
theorem dX19_sendOpen_44 : decode cX19_sendOpen 44 = .ok (.getfield 96, 3) := by decide +kernel
theorem dX19_sendOpen_47 : decode cX19_sendOpen 47 = .ok (.aload_n 1, 1) := by decide +kernel
theorem dX19_sendOpen_48 : decode cX19_sendOpen 48 = .ok (.getfield 732, 3) := by decide +kernel
theorem dX19_sendOpen_51 : decode cX19_sendOpen 51 = .ok (.iaload, 1) := by decide +kernel
theorem dX19_sendOpen_52 : decode cX19_sendOpen 52 = .ok (.invokevirtual 44, 3) := by decide +kernel
theorem dX19_sendOpen_55 : decode cX19_sendOpen 55 = .ok (.aload_n 0, 1) := by decide +kernel
theorem dX19_sendOpen_56 : decode cX19_sendOpen 56 = .ok (.getfield 93, 3) := by decide +kernel
theorem dX19_sendOpen_59 : decode cX19_sendOpen 59 = .ok (.aload_n 1, 1) := by decide +kernel
theorem dX19_sendOpen_60 : decode cX19_sendOpen 60 = .ok (.getfield 732, 3) := by decide +kernel
theorem dX19_sendOpen_63 : decode cX19_sendOpen 63 = .ok (.dup2, 1) := by decide +kernel
theorem dX19_sendOpen_64 : decode cX19_sendOpen 64 = .ok (.iaload, 1) := by decide +kernel
theorem dX19_sendOpen_65 : decode cX19_sendOpen 65 = .ok (.iconst 1, 1) := by decide +kernel
theorem dX19_sendOpen_66 : decode cX19_sendOpen 66 = .ok (.iadd, 1) := by decide +kernel
theorem dX19_sendOpen_67 : decode cX19_sendOpen 67 = .ok (.iastore, 1) := by decide +kernel
theorem dX19_sendOpen_68 : decode cX19_sendOpen 68 = .ok (.aload_n 1, 1) := by decide +kernel
theorem dX19_sendOpen_69 : decode cX19_sendOpen 69 = .ok (.getfield 735, 3) := by decide +kernel
theorem dX19_sendOpen_72 : decode cX19_sendOpen 72 = .ok (.ifCond .eq 11, 3) := by decide +kernel
theorem dX19_sendOpen_75 : decode cX19_sendOpen 75 = .ok (.aload_n 1, 1) := by decide +kernel
theorem dX19_sendOpen_76 : decode cX19_sendOpen 76 = .ok (.iconst 0, 1) := by decide +kernel
theorem dX19_sendOpen_77 : decode cX19_sendOpen 77 = .ok (.putfield 713, 3) := by decide +kernel
theorem dX19_sendOpen_80 : decode cX19_sendOpen 80 = .ok (.goto 31, 3) := by decide +kernel
theorem dX19_sendOpen_83 : decode cX19_sendOpen 83 = .ok (.aload_n 1, 1) := by decide +kernel
theorem dX19_sendOpen_84 : decode cX19_sendOpen 84 = .ok (.getfield 713, 3) := by decide +kernel
theorem dX19_sendOpen_87 : decode cX19_sendOpen 87 = .ok (.ifCond .ne 24, 3) := by decide +kernel
theorem dX19_sendOpen_90 : decode cX19_sendOpen 90 = .ok (.aload_n 1, 1) := by decide +kernel
theorem dX19_sendOpen_91 : decode cX19_sendOpen 91 = .ok (.iconst 1, 1) := by decide +kernel
theorem dX19_sendOpen_92 : decode cX19_sendOpen 92 = .ok (.putfield 713, 3) := by decide +kernel
theorem dX19_sendOpen_95 : decode cX19_sendOpen 95 = .ok (.aload_n 1, 1) := by decide +kernel
theorem dX19_sendOpen_96 : decode cX19_sendOpen 96 = .ok (.aload_n 1, 1) := by decide +kernel
theorem dX19_sendOpen_97 : decode cX19_sendOpen 97 = .ok (.getfield 600, 3) := by decide +kernel
theorem dX19_sendOpen_100 : decode cX19_sendOpen 100 = .ok (.putfield 738, 3) := by decide +kernel
theorem dX19_sendOpen_103 : decode cX19_sendOpen 103 = .ok (.aload_n 1, 1) := by decide +kernel
theorem dX19_sendOpen_104 : decode cX19_sendOpen 104 = .ok (.aload_n 0, 1) := by decide +kernel
theorem dX19_sendOpen_105 : decode cX19_sendOpen 105 = .ok (.getfield 143, 3) := by decide +kernel
theorem dX19_sendOpen_108 : decode cX19_sendOpen 108 = .ok (.putfield 741, 3) := by decide +kernel
theorem dX19_sendOpen_111 : decode cX19_sendOpen 111 = .ok (.aload_n 1, 1) := by decide +kernel
theorem dX19_sendOpen_112 : decode cX19_sendOpen 112 = .ok (.iconst 1, 1) := by decide +kernel
theorem dX19_sendOpen_113 : decode cX19_sendOpen 113 = .ok (.putfield 735, 3) := by decide +kernel
theorem dX19_sendOpen_116 : decode cX19_sendOpen 116 = .ok (.aload_n 1, 1) := by decide +kernel
theorem dX19_sendOpen_117 : decode cX19_sendOpen 117 = .ok (.getfield 655, 3) := by decide +kernel
theorem dX19_sendOpen_120 : decode cX19_sendOpen 120 = .ok (.ifCond .ne 11, 3) := by decide +kernel
theorem dX19_sendOpen_123 : decode cX19_sendOpen 123 = .ok (.aload_n 1, 1) := by decide +kernel
theorem dX19_sendOpen_124 : decode cX19_sendOpen 124 = .ok (.aload_n 0, 1) := by decide +kernel
theorem dX19_sendOpen_125 : decode cX19_sendOpen 125 = .ok (.getfield 143, 3) := by decide +kernel
theorem dX19_sendOpen_128 : decode cX19_sendOpen 128 = .ok (.invokevirtual 744, 3) := by decide +kernel
theorem dX19_sendOpen_131 : decode cX19_sendOpen 131 = .ok (.iload_n 2, 1) := by decide +kernel
theorem dX19_sendOpen_132 : decode cX19_sendOpen 132 = .ok (.ireturn, 1) := by decide +kernel
theorem dX19_sendNew_0 : decode cX19_sendNew 0 = .ok (.aload_n 1, 1) := by decide +kernel
theorem dX19_sendNew_1 : decode cX19_sendNew 1 = .ok (.getfield 646, 3) := by decide +kernel
theorem dX19_sendNew_4 : decode cX19_sendNew 4 = .ok (.aload_n 1, 1) := by decide +kernel
theorem dX19_sendNew_5 : decode cX19_sendNew 5 = .ok (.getfield 582, 3) := by decide +kernel
theorem dX19_sendNew_8 : decode cX19_sendNew 8 = .ok (.iadd, 1) := by decide +kernel
theorem dX19_sendNew_9 : decode cX19_sendNew 9 = .ok (.aload_n 1, 1) := by decide +kernel
theorem dX19_sendNew_10 : decode cX19_sendNew 10 = .ok (.getfield 600, 3) := by decide +kernel
theorem dX19_sendNew_13 : decode cX19_sendNew 13 = .ok (.isub, 1) := by decide +kernel
theorem dX19_sendNew_14 : decode cX19_sendNew 14 = .ok (.istore_n 2, 1) := by decide +kernel
theorem dX19_sendNew_15 : decode cX19_sendNew 15 = .ok (.aload_n 1, 1) := by decide +kernel
theorem dX19_sendNew_16 : decode cX19_sendNew 16 = .ok (.invokevirtual 726, 3) := by decide +kernel
theorem dX19_sendNew_19 : decode cX19_sendNew 19 = .ok (.ifCond .eq 7, 3) := by decide +kernel
theorem dX19_sendNew_22 : decode cX19_sendNew 22 = .ok (.iload_n 2, 1) := by decide +kernel
theorem dX19_sendNew_23 : decode cX19_sendNew 23 = .ok (.ifCond .gt 5, 3) := by decide +kernel
theorem dX19_sendNew_26 : decode cX19_sendNew 26 = .ok (.iconst (-1), 1) := by decide +kernel
theorem dX19_sendNew_27 : decode cX19_sendNew 27 = .ok (.ireturn, 1) := by decide +kernel
theorem dX19_sendNew_28 : decode cX19_sendNew 28 = .ok (.aload_n 1, 1) := by decide +kernel
theorem dX19_sendNew_29 : decode cX19_sendNew 29 = .ok (.getfield 658, 3) := by decide +kernel
theorem dX19_sendNew_32 : decode cX19_sendNew 32 = .ok (.aload_n 1, 1) := by decide +kernel
theorem dX19_sendNew_33 : decode cX19_sendNew 33 = .ok (.getfield 600, 3) := by decide +kernel
theorem dX19_sendNew_36 : decode cX19_sendNew 36 = .ok (.isub, 1) := by decide +kernel
theorem dX19_sendNew_37 : decode cX19_sendNew 37 = .ok (.istore_n 3, 1) := by decide +kernel
theorem dX19_sendNew_38 : decode cX19_sendNew 38 = .ok (.iload_n 3, 1) := by decide +kernel
theorem dX19_sendNew_39 : decode cX19_sendNew 39 = .ok (.aload_n 1, 1) := by decide +kernel
theorem dX19_sendNew_40 : decode cX19_sendNew 40 = .ok (.getfield 579, 3) := by decide +kernel
theorem dX19_sendNew_43 : decode cX19_sendNew 43 = .ok (.if_icmp .ge 7, 3) := by decide +kernel
theorem dX19_sendNew_46 : decode cX19_sendNew 46 = .ok (.iload_n 3, 1) := by decide +kernel
theorem dX19_sendNew_47 : decode cX19_sendNew 47 = .ok (.goto 7, 3) := by decide +kernel
theorem dX19_sendNew_50 : decode cX19_sendNew 50 = .ok (.aload_n 1, 1) := by decide +kernel
theorem dX19_sendNew_51 : decode cX19_sendNew 51 = .ok (.getfield 579, 3) := by decide +kernel
theorem dX19_sendNew_54 : decode cX19_sendNew 54 = .ok (.istore 4, 2) := by decide +kernel
theorem dX19_sendNew_56 : decode cX19_sendNew 56 = .ok (.iload 4, 2) := by decide +kernel
theorem dX19_sendNew_58 : decode cX19_sendNew 58 = .ok (.iload_n 2, 1) := by decide +kernel
theorem dX19_sendNew_59 : decode cX19_sendNew 59 = .ok (.if_icmp .ge 8, 3) := by decide +kernel
theorem dX19_sendNew_62 : decode cX19_sendNew 62 = .ok (.iload 4, 2) := by decide +kernel
theorem dX19_sendNew_64 : decode cX19_sendNew 64 = .ok (.goto 4, 3) := by decide +kernel
theorem dX19_sendNew_67 : decode cX19_sendNew 67 = .ok (.iload_n 2, 1) := by decide +kernel
theorem dX19_sendNew_68 : decode cX19_sendNew 68 = .ok (.istore 4, 2) := by decide +kernel
theorem dX19_sendNew_70 : decode cX19_sendNew 70 = .ok (.aload_n 1, 1) := by decide +kernel
theorem dX19_sendNew_71 : decode cX19_sendNew 71 = .ok (.getfield 634, 3) := by decide +kernel
theorem dX19_sendNew_74 : decode cX19_sendNew 74 = .ok (.ifCond .eq 19, 3) := by decide +kernel
theorem dX19_sendNew_77 : decode cX19_sendNew 77 = .ok (.iload 4, 2) := by decide +kernel
theorem dX19_sendNew_79 : decode cX19_sendNew 79 = .ok (.iload_n 3, 1) := by decide +kernel
theorem dX19_sendNew_80 : decode cX19_sendNew 80 = .ok (.if_icmp .ne 13, 3) := by decide +kernel
theorem dX19_sendNew_83 : decode cX19_sendNew 83 = .ok (.iload_n 2, 1) := by decide +kernel
theorem dX19_sendNew_84 : decode cX19_sendNew 84 = .ok (.iload 4, 2) := by decide +kernel
theorem dX19_sendNew_86 : decode cX19_sendNew 86 = .ok (.if_icmp .le 7, 3) := by decide +kernel
theorem dX19_sendNew_89 : decode cX19_sendNew 89 = .ok (.iconst 1, 1) := by decide +kernel
theorem dX19_sendNew_90 : decode cX19_sendNew 90 = .ok (.goto 4, 3) := by decide +kernel
theorem dX19_sendNew_93 : decode cX19_sendNew 93 = .ok (.iconst 0, 1) := by decide +kernel
theorem dX19_sendNew_94 : decode cX19_sendNew 94 = .ok (.istore 5, 2) := by decide +kernel
theorem dX19_sendNew_96 : decode cX19_sendNew 96 = .ok (.iload 4, 2) := by decide +kernel
theorem dX19_sendNew_98 : decode cX19_sendNew 98 = .ok (.ifCond .ne 10, 3) := by decide +kernel
theorem dX19_sendNew_101 : decode cX19_sendNew 101 = .ok (.iload 5, 2) := by decide +kernel
theorem dX19_sendNew_103 : decode cX19_sendNew 103 = .ok (.ifCond .ne 5, 3) := by decide +kernel
theorem dX19_sendNew_106 : decode cX19_sendNew 106 = .ok (.iconst (-1), 1) := by decide +kernel
theorem dX19_sendNew_107 : decode cX19_sendNew 107 = .ok (.ireturn, 1) := by decide +kernel
theorem dX19_sendNew_108 : decode cX19_sendNew 108 = .ok (.aload_n 0, 1) := by decide +kernel
theorem dX19_sendNew_109 : decode cX19_sendNew 109 = .ok (.aload_n 1, 1) := by decide +kernel
theorem dX19_sendNew_110 : decode cX19_sendNew 110 = .ok (.iload 5, 2) := by decide +kernel
theorem dX19_sendNew_112 : decode cX19_sendNew 112 = .ok (.ifCond .eq 7, 3) := by decide +kernel
theorem dX19_sendNew_115 : decode cX19_sendNew 115 = .ok (.iconst 2, 1) := by decide +kernel
theorem dX19_sendNew_116 : decode cX19_sendNew 116 = .ok (.goto 4, 3) := by decide +kernel
theorem dX19_sendNew_119 : decode cX19_sendNew 119 = .ok (.iconst 0, 1) := by decide +kernel
theorem dX19_sendNew_120 : decode cX19_sendNew 120 = .ok (.aload_n 1, 1) := by decide +kernel
theorem dX19_sendNew_121 : decode cX19_sendNew 121 = .ok (.getfield 600, 3) := by decide +kernel
theorem dX19_sendNew_124 : decode cX19_sendNew 124 = .ok (.iload 4, 2) := by decide +kernel
theorem dX19_sendNew_126 : decode cX19_sendNew 126 = .ok (.invokevirtual 719, 3) := by decide +kernel
theorem dX19_sendNew_129 : decode cX19_sendNew 129 = .ok (.istore 6, 2) := by decide +kernel
theorem dX19_sendNew_131 : decode cX19_sendNew 131 = .ok (.aload_n 1, 1) := by decide +kernel
theorem dX19_sendNew_132 : decode cX19_sendNew 132 = .ok (.dup, 1) := by decide +kernel
theorem dX19_sendNew_133 : decode cX19_sendNew 133 = .ok (.getfield 600, 3) := by decide +kernel
theorem dX19_sendNew_136 : decode cX19_sendNew 136 = .ok (.iload 4, 2) := by decide +kernel
theorem dX19_sendNew_138 : decode cX19_sendNew 138 = .ok (.iload 5, 2) := by decide +kernel
theorem dX19_sendNew_140 : decode cX19_sendNew 140 = .ok (.ifCond .eq 7, 3) := by decide +kernel
theorem dX19_sendNew_143 : decode cX19_sendNew 143 = .ok (.iconst 1, 1) := by decide +kernel
theorem dX19_sendNew_144 : decode cX19_sendNew 144 = .ok (.goto 4, 3) := by decide +kernel
theorem dX19_sendNew_147 : decode cX19_sendNew 147 = .ok (.iconst 0, 1) := by decide +kernel
theorem dX19_sendNew_148 : decode cX19_sendNew 148 = .ok (.iadd, 1) := by decide +kernel
theorem dX19_sendNew_149 : decode cX19_sendNew 149 = .ok (.iadd, 1) := by decide +kernel
theorem dX19_sendNew_150 : decode cX19_sendNew 150 = .ok (.putfield 600, 3) := by decide +kernel
theorem dX19_sendNew_153 : decode cX19_sendNew 153 = .ok (.aload_n 1, 1) := by decide +kernel
theorem dX19_sendNew_154 : decode cX19_sendNew 154 = .ok (.aload_n 0, 1) := by decide +kernel
theorem dX19_sendNew_155 : decode cX19_sendNew 155 = .ok (.getfield 143, 3) := by decide +kernel
theorem dX19_sendNew_158 : decode cX19_sendNew 158 = .ok (.invokevirtual 729, 3) := by decide +kernel
theorem dX19_sendNew_161 : decode cX19_sendNew 161 = .ok (.iload 6, 2) := by decide +kernel
theorem dX19_sendNew_163 : decode cX19_sendNew 163 = .ok (.ireturn, 1) := by decide +kernel
theorem dX19_say_0 : decode cX19_say 0 = .ok (.aload_n 0, 1) := by decide +kernel
theorem dX19_say_1 : decode cX19_say 1 = .ok (.iload_n 2, 1) := by decide +kernel
theorem dX19_say_2 : decode cX19_say 2 = .ok (.iconst 0, 1) := by decide +kernel
theorem dX19_say_3 : decode cX19_say 3 = .ok (.iload_n 3, 1) := by decide +kernel
theorem dX19_say_4 : decode cX19_say 4 = .ok (.invokevirtual 44, 3) := by decide +kernel
theorem dX19_say_7 : decode cX19_say 7 = .ok (.aload_n 0, 1) := by decide +kernel
theorem dX19_say_8 : decode cX19_say 8 = .ok (.iload_n 2, 1) := by decide +kernel
theorem dX19_say_9 : decode cX19_say 9 = .ok (.iconst 1, 1) := by decide +kernel
theorem dX19_say_10 : decode cX19_say 10 = .ok (.iload 5, 2) := by decide +kernel
theorem dX19_say_12 : decode cX19_say 12 = .ok (.invokevirtual 44, 3) := by decide +kernel
theorem dX19_say_15 : decode cX19_say 15 = .ok (.aload_n 0, 1) := by decide +kernel
theorem dX19_say_16 : decode cX19_say 16 = .ok (.aload_n 1, 1) := by decide +kernel
theorem dX19_say_17 : decode cX19_say 17 = .ok (.iconst 1, 1) := by decide +kernel
theorem dX19_say_18 : decode cX19_say 18 = .ok (.bipush 20, 2) := by decide +kernel
theorem dX19_say_20 : decode cX19_say 20 = .ok (.aload_n 0, 1) := by decide +kernel
theorem dX19_say_21 : decode cX19_say 21 = .ok (.iload_n 2, 1) := by decide +kernel
theorem dX19_say_22 : decode cX19_say 22 = .ok (.bipush 7, 2) := by decide +kernel
theorem dX19_say_24 : decode cX19_say 24 = .ok (.invokevirtual 47, 3) := by decide +kernel
theorem dX19_say_27 : decode cX19_say 27 = .ok (.iadd, 1) := by decide +kernel
theorem dX19_say_28 : decode cX19_say 28 = .ok (.aload_n 1, 1) := by decide +kernel
theorem dX19_say_29 : decode cX19_say 29 = .ok (.getfield 276, 3) := by decide +kernel
theorem dX19_say_32 : decode cX19_say 32 = .ok (.iconst 0, 1) := by decide +kernel
theorem dX19_say_33 : decode cX19_say 33 = .ok (.aaload, 1) := by decide +kernel
theorem dX19_say_34 : decode cX19_say 34 = .ok (.invokevirtual 280, 3) := by decide +kernel
theorem dX19_say_37 : decode cX19_say 37 = .ok (.iload 4, 2) := by decide +kernel
theorem dX19_say_39 : decode cX19_say 39 = .ok (.invokevirtual 329, 3) := by decide +kernel
theorem dX19_say_42 : decode cX19_say 42 = .ok (.istore 6, 2) := by decide +kernel
theorem dX19_say_44 : decode cX19_say 44 = .ok (.aload_n 0, 1) := by decide +kernel
theorem dX19_say_45 : decode cX19_say 45 = .ok (.iload 6, 2) := by decide +kernel
theorem dX19_say_47 : decode cX19_say 47 = .ok (.bipush 10, 2) := by decide +kernel
theorem dX19_say_49 : decode cX19_say 49 = .ok (.iload_n 2, 1) := by decide +kernel
theorem dX19_say_50 : decode cX19_say 50 = .ok (.invokevirtual 14, 3) := by decide +kernel
theorem dX19_say_53 : decode cX19_say 53 = .ok (.aload_n 0, 1) := by decide +kernel
theorem dX19_say_54 : decode cX19_say 54 = .ok (.aload_n 1, 1) := by decide +kernel
theorem dX19_say_55 : decode cX19_say 55 = .ok (.iload 6, 2) := by decide +kernel
theorem dX19_say_57 : decode cX19_say 57 = .ok (.invokevirtual 337, 3) := by decide +kernel
theorem dX19_say_60 : decode cX19_say 60 = .ok (.aload_n 0, 1) := by decide +kernel
theorem dX19_say_61 : decode cX19_say 61 = .ok (.iload 6, 2) := by decide +kernel
theorem dX19_say_63 : decode cX19_say 63 = .ok (.invokevirtual 204, 3) := by decide +kernel
theorem dX19_say_66 : decode cX19_say 66 = .ok (.return_, 1) := by decide +kernel
theorem dX19_leastFree_0 : decode cX19_leastFree 0 = .ok (.iconst 0, 1) := by decide +kernel
theorem dX19_leastFree_1 : decode cX19_leastFree 1 = .ok (.istore_n 1, 1) := by decide +kernel
theorem dX19_leastFree_2 : decode cX19_leastFree 2 = .ok (.iload_n 1, 1) := by decide +kernel
theorem dX19_leastFree_3 : decode cX19_leastFree 3 = .ok (.bipush 6, 2) := by decide +kernel
theorem dX19_leastFree_5 : decode cX19_leastFree 5 = .ok (.if_icmp .ge 35, 3) := by decide +kernel
theorem dX19_leastFree_8 : decode cX19_leastFree 8 = .ok (.aload_n 0, 1) := by decide +kernel
theorem dX19_leastFree_9 : decode cX19_leastFree 9 = .ok (.getfield 340, 3) := by decide +kernel
theorem dX19_leastFree_12 : decode cX19_leastFree 12 = .ok (.iload_n 1, 1) := by decide +kernel
theorem dX19_leastFree_13 : decode cX19_leastFree 13 = .ok (.aaload, 1) := by decide +kernel
theorem dX19_leastFree_14 : decode cX19_leastFree 14 = .ok (.getfield 350, 3) := by decide +kernel
theorem dX19_leastFree_17 : decode cX19_leastFree 17 = .ok (.ifCond .ne 17, 3) := by decide +kernel
theorem dX19_leastFree_20 : decode cX19_leastFree 20 = .ok (.aload_n 0, 1) := by decide +kernel
theorem dX19_leastFree_21 : decode cX19_leastFree 21 = .ok (.getfield 340, 3) := by decide +kernel
theorem dX19_leastFree_24 : decode cX19_leastFree 24 = .ok (.iload_n 1, 1) := by decide +kernel
theorem dX19_leastFree_25 : decode cX19_leastFree 25 = .ok (.aaload, 1) := by decide +kernel
theorem dX19_leastFree_26 : decode cX19_leastFree 26 = .ok (.getfield 747, 3) := by decide +kernel
theorem dX19_leastFree_29 : decode cX19_leastFree 29 = .ok (.ifCond .ne 5, 3) := by decide +kernel
theorem dX19_leastFree_32 : decode cX19_leastFree 32 = .ok (.iload_n 1, 1) := by decide +kernel
theorem dX19_leastFree_33 : decode cX19_leastFree 33 = .ok (.ireturn, 1) := by decide +kernel
theorem dX19_leastFree_34 : decode cX19_leastFree 34 = .ok (.iinc 1 1, 3) := by decide +kernel
theorem dX19_leastFree_37 : decode cX19_leastFree 37 = .ok (.goto (-35), 3) := by decide +kernel
theorem dX19_leastFree_40 : decode cX19_leastFree 40 = .ok (.iconst (-1), 1) := by decide +kernel
theorem dX19_leastFree_41 : decode cX19_leastFree 41 = .ok (.ireturn, 1) := by decide +kernel
theorem dX19_newBooks_0 : decode cX19_newBooks 0 = .ok (.aload_n 0, 1) := by decide +kernel
theorem dX19_newBooks_1 : decode cX19_newBooks 1 = .ok (.aload_n 1, 1) := by decide +kernel
theorem dX19_newBooks_2 : decode cX19_newBooks 2 = .ok (.getfield 732, 3) := by decide +kernel
theorem dX19_newBooks_5 : decode cX19_newBooks 5 = .ok (.invokevirtual 50, 3) := by decide +kernel
theorem dX19_newBooks_8 : decode cX19_newBooks 8 = .ok (.aload_n 0, 1) := by decide +kernel
theorem dX19_newBooks_9 : decode cX19_newBooks 9 = .ok (.aload_n 1, 1) := by decide +kernel
theorem dX19_newBooks_10 : decode cX19_newBooks 10 = .ok (.getfield 594, 3) := by decide +kernel
theorem dX19_newBooks_13 : decode cX19_newBooks 13 = .ok (.invokevirtual 50, 3) := by decide +kernel
theorem dX19_newBooks_16 : decode cX19_newBooks 16 = .ok (.aload_n 1, 1) := by decide +kernel
theorem dX19_newBooks_17 : decode cX19_newBooks 17 = .ok (.aload_n 0, 1) := by decide +kernel
theorem dX19_newBooks_18 : decode cX19_newBooks 18 = .ok (.invokevirtual 750, 3) := by decide +kernel
theorem dX19_newBooks_21 : decode cX19_newBooks 21 = .ok (.putfield 732, 3) := by decide +kernel
theorem dX19_newBooks_24 : decode cX19_newBooks 24 = .ok (.aload_n 1, 1) := by decide +kernel
theorem dX19_newBooks_25 : decode cX19_newBooks 25 = .ok (.iconst (-1), 1) := by decide +kernel
theorem dX19_newBooks_26 : decode cX19_newBooks 26 = .ok (.putfield 594, 3) := by decide +kernel
theorem dX19_newBooks_29 : decode cX19_newBooks 29 = .ok (.return_, 1) := by decide +kernel
theorem dX19_giveEnd_0 : decode cX19_giveEnd 0 = .ok (.aload_n 2, 1) := by decide +kernel
theorem dX19_giveEnd_1 : decode cX19_giveEnd 1 = .ok (.getfield 344, 3) := by decide +kernel
theorem dX19_giveEnd_4 : decode cX19_giveEnd 4 = .ok (.astore 6, 2) := by decide +kernel
theorem dX19_giveEnd_6 : decode cX19_giveEnd 6 = .ok (.aload 6, 2) := by decide +kernel
theorem dX19_giveEnd_8 : decode cX19_giveEnd 8 = .ok (.ldc_w 753, 3) := by decide +kernel
theorem dX19_giveEnd_11 : decode cX19_giveEnd 11 = .ok (.aload_n 0, 1) := by decide +kernel
theorem dX19_giveEnd_12 : decode cX19_giveEnd 12 = .ok (.getfield 143, 3) := by decide +kernel
theorem dX19_giveEnd_15 : decode cX19_giveEnd 15 = .ok (.imul, 1) := by decide +kernel
theorem dX19_giveEnd_16 : decode cX19_giveEnd 16 = .ok (.sipush 977, 3) := by decide +kernel
theorem dX19_giveEnd_19 : decode cX19_giveEnd 19 = .ok (.aload_n 1, 1) := by decide +kernel
theorem dX19_giveEnd_20 : decode cX19_giveEnd 20 = .ok (.getfield 310, 3) := by decide +kernel
theorem dX19_giveEnd_23 : decode cX19_giveEnd 23 = .ok (.imul, 1) := by decide +kernel
theorem dX19_giveEnd_24 : decode cX19_giveEnd 24 = .ok (.iadd, 1) := by decide +kernel
theorem dX19_giveEnd_25 : decode cX19_giveEnd 25 = .ok (.aload_n 1, 1) := by decide +kernel
theorem dX19_giveEnd_26 : decode cX19_giveEnd 26 = .ok (.getfield 276, 3) := by decide +kernel
theorem dX19_giveEnd_29 : decode cX19_giveEnd 29 = .ok (.iconst 0, 1) := by decide +kernel
theorem dX19_giveEnd_30 : decode cX19_giveEnd 30 = .ok (.aaload, 1) := by decide +kernel
theorem dX19_giveEnd_31 : decode cX19_giveEnd 31 = .ok (.getfield 149, 3) := by decide +kernel
theorem dX19_giveEnd_34 : decode cX19_giveEnd 34 = .ok (.getfield 191, 3) := by decide +kernel
theorem dX19_giveEnd_37 : decode cX19_giveEnd 37 = .ok (.bipush 40, 2) := by decide +kernel
theorem dX19_giveEnd_39 : decode cX19_giveEnd 39 = .ok (.isub, 1) := by decide +kernel
theorem dX19_giveEnd_40 : decode cX19_giveEnd 40 = .ok (.invokevirtual 754, 3) := by decide +kernel
theorem dX19_giveEnd_43 : decode cX19_giveEnd 43 = .ok (.aload 6, 2) := by decide +kernel
theorem dX19_giveEnd_45 : decode cX19_giveEnd 45 = .ok (.iconst 0, 1) := by decide +kernel
theorem dX19_giveEnd_46 : decode cX19_giveEnd 46 = .ok (.putfield 694, 3) := by decide +kernel
theorem dX19_giveEnd_49 : decode cX19_giveEnd 49 = .ok (.aload_n 0, 1) := by decide +kernel
theorem dX19_giveEnd_50 : decode cX19_giveEnd 50 = .ok (.aload 6, 2) := by decide +kernel
theorem dX19_giveEnd_52 : decode cX19_giveEnd 52 = .ok (.invokevirtual 757, 3) := by decide +kernel
theorem dX19_giveEnd_55 : decode cX19_giveEnd 55 = .ok (.aload 6, 2) := by decide +kernel
theorem dX19_giveEnd_57 : decode cX19_giveEnd 57 = .ok (.iload_n 3, 1) := by decide +kernel
theorem dX19_giveEnd_58 : decode cX19_giveEnd 58 = .ok (.putfield 358, 3) := by decide +kernel
theorem dX19_giveEnd_61 : decode cX19_giveEnd 61 = .ok (.aload 6, 2) := by decide +kernel
theorem dX19_giveEnd_63 : decode cX19_giveEnd 63 = .ok (.iload 4, 2) := by decide +kernel
theorem dX19_giveEnd_65 : decode cX19_giveEnd 65 = .ok (.putfield 361, 3) := by decide +kernel
theorem dX19_giveEnd_68 : decode cX19_giveEnd 68 = .ok (.aload 6, 2) := by decide +kernel
theorem dX19_giveEnd_70 : decode cX19_giveEnd 70 = .ok (.iload 5, 2) := by decide +kernel
theorem dX19_giveEnd_72 : decode cX19_giveEnd 72 = .ok (.putfield 364, 3) := by decide +kernel
theorem dX19_giveEnd_75 : decode cX19_giveEnd 75 = .ok (.aload_n 2, 1) := by decide +kernel
theorem dX19_giveEnd_76 : decode cX19_giveEnd 76 = .ok (.iconst 1, 1) := by decide +kernel
theorem dX19_giveEnd_77 : decode cX19_giveEnd 77 = .ok (.putfield 350, 3) := by decide +kernel
theorem dX19_giveEnd_80 : decode cX19_giveEnd 80 = .ok (.aload_n 2, 1) := by decide +kernel
theorem dX19_giveEnd_81 : decode cX19_giveEnd 81 = .ok (.iconst (-1), 1) := by decide +kernel
theorem dX19_giveEnd_82 : decode cX19_giveEnd 82 = .ok (.putfield 761, 3) := by decide +kernel
theorem dX19_giveEnd_85 : decode cX19_giveEnd 85 = .ok (.aload_n 2, 1) := by decide +kernel
theorem dX19_giveEnd_86 : decode cX19_giveEnd 86 = .ok (.iconst 0, 1) := by decide +kernel
theorem dX19_giveEnd_87 : decode cX19_giveEnd 87 = .ok (.putfield 764, 3) := by decide +kernel
theorem dX19_giveEnd_90 : decode cX19_giveEnd 90 = .ok (.aload_n 2, 1) := by decide +kernel
theorem dX19_giveEnd_91 : decode cX19_giveEnd 91 = .ok (.iconst 0, 1) := by decide +kernel
theorem dX19_giveEnd_92 : decode cX19_giveEnd 92 = .ok (.putfield 767, 3) := by decide +kernel
theorem dX19_giveEnd_95 : decode cX19_giveEnd 95 = .ok (.aload_n 2, 1) := by decide +kernel
theorem dX19_giveEnd_96 : decode cX19_giveEnd 96 = .ok (.iconst 0, 1) := by decide +kernel
theorem dX19_giveEnd_97 : decode cX19_giveEnd 97 = .ok (.putfield 770, 3) := by decide +kernel
theorem dX19_giveEnd_100 : decode cX19_giveEnd 100 = .ok (.aload_n 2, 1) := by decide +kernel
theorem dX19_giveEnd_101 : decode cX19_giveEnd 101 = .ok (.iconst 1, 1) := by decide +kernel
theorem dX19_giveEnd_102 : decode cX19_giveEnd 102 = .ok (.putfield 773, 3) := by decide +kernel
theorem dX19_giveEnd_105 : decode cX19_giveEnd 105 = .ok (.return_, 1) := by decide +kernel
theorem dX19_takeEnd_0 : decode cX19_takeEnd 0 = .ok (.aload_n 1, 1) := by decide +kernel
theorem dX19_takeEnd_1 : decode cX19_takeEnd 1 = .ok (.iconst 0, 1) := by decide +kernel
theorem dX19_takeEnd_2 : decode cX19_takeEnd 2 = .ok (.putfield 350, 3) := by decide +kernel
theorem dX19_takeEnd_5 : decode cX19_takeEnd 5 = .ok (.aload_n 0, 1) := by decide +kernel
theorem dX19_takeEnd_6 : decode cX19_takeEnd 6 = .ok (.aload_n 1, 1) := by decide +kernel
theorem dX19_takeEnd_7 : decode cX19_takeEnd 7 = .ok (.getfield 344, 3) := by decide +kernel
theorem dX19_takeEnd_10 : decode cX19_takeEnd 10 = .ok (.getfield 732, 3) := by decide +kernel
theorem dX19_takeEnd_13 : decode cX19_takeEnd 13 = .ok (.invokevirtual 50, 3) := by decide +kernel
theorem dX19_takeEnd_16 : decode cX19_takeEnd 16 = .ok (.aload_n 0, 1) := by decide +kernel
theorem dX19_takeEnd_17 : decode cX19_takeEnd 17 = .ok (.aload_n 1, 1) := by decide +kernel
theorem dX19_takeEnd_18 : decode cX19_takeEnd 18 = .ok (.getfield 344, 3) := by decide +kernel
theorem dX19_takeEnd_21 : decode cX19_takeEnd 21 = .ok (.getfield 594, 3) := by decide +kernel
theorem dX19_takeEnd_24 : decode cX19_takeEnd 24 = .ok (.invokevirtual 50, 3) := by decide +kernel
theorem dX19_takeEnd_27 : decode cX19_takeEnd 27 = .ok (.aload_n 1, 1) := by decide +kernel
theorem dX19_takeEnd_28 : decode cX19_takeEnd 28 = .ok (.getfield 344, 3) := by decide +kernel
theorem dX19_takeEnd_31 : decode cX19_takeEnd 31 = .ok (.iconst (-1), 1) := by decide +kernel
theorem dX19_takeEnd_32 : decode cX19_takeEnd 32 = .ok (.putfield 732, 3) := by decide +kernel
theorem dX19_takeEnd_35 : decode cX19_takeEnd 35 = .ok (.aload_n 1, 1) := by decide +kernel
theorem dX19_takeEnd_36 : decode cX19_takeEnd 36 = .ok (.getfield 344, 3) := by decide +kernel
theorem dX19_takeEnd_39 : decode cX19_takeEnd 39 = .ok (.iconst (-1), 1) := by decide +kernel
theorem dX19_takeEnd_40 : decode cX19_takeEnd 40 = .ok (.putfield 594, 3) := by decide +kernel
theorem dX19_takeEnd_43 : decode cX19_takeEnd 43 = .ok (.return_, 1) := by decide +kernel
theorem dX19_segment_0 : decode cX19_segment 0 = .ok (.aload_n 0, 1) := by decide +kernel
theorem dX19_segment_1 : decode cX19_segment 1 = .ok (.iload_n 2, 1) := by decide +kernel
theorem dX19_segment_2 : decode cX19_segment 2 = .ok (.iconst 1, 1) := by decide +kernel
theorem dX19_segment_3 : decode cX19_segment 3 = .ok (.invokevirtual 47, 3) := by decide +kernel
theorem dX19_segment_6 : decode cX19_segment 6 = .ok (.istore 4, 2) := by decide +kernel
theorem dX19_segment_8 : decode cX19_segment 8 = .ok (.aload_n 0, 1) := by decide +kernel
theorem dX19_segment_9 : decode cX19_segment 9 = .ok (.iload_n 2, 1) := by decide +kernel
theorem dX19_segment_10 : decode cX19_segment 10 = .ok (.iconst 0, 1) := by decide +kernel
theorem dX19_segment_11 : decode cX19_segment 11 = .ok (.invokevirtual 47, 3) := by decide +kernel
theorem dX19_segment_14 : decode cX19_segment 14 = .ok (.istore 5, 2) := by decide +kernel
theorem dX19_segment_16 : decode cX19_segment 16 = .ok (.iconst 0, 1) := by decide +kernel
theorem dX19_segment_17 : decode cX19_segment 17 = .ok (.istore 6, 2) := by decide +kernel
theorem dX19_segment_19 : decode cX19_segment 19 = .ok (.iload 6, 2) := by decide +kernel
theorem dX19_segment_21 : decode cX19_segment 21 = .ok (.bipush 6, 2) := by decide +kernel
theorem dX19_segment_23 : decode cX19_segment 23 = .ok (.if_icmp .ge 135, 3) := by decide +kernel
theorem dX19_segment_26 : decode cX19_segment 26 = .ok (.aload_n 1, 1) := by decide +kernel
theorem dX19_segment_27 : decode cX19_segment 27 = .ok (.getfield 340, 3) := by decide +kernel
theorem dX19_segment_30 : decode cX19_segment 30 = .ok (.iload 6, 2) := by decide +kernel
theorem dX19_segment_32 : decode cX19_segment 32 = .ok (.aaload, 1) := by decide +kernel
theorem dX19_segment_33 : decode cX19_segment 33 = .ok (.getfield 344, 3) := by decide +kernel
theorem dX19_segment_36 : decode cX19_segment 36 = .ok (.astore 7, 2) := by decide +kernel
theorem dX19_segment_38 : decode cX19_segment 38 = .ok (.aload_n 1, 1) := by decide +kernel
theorem dX19_segment_39 : decode cX19_segment 39 = .ok (.getfield 340, 3) := by decide +kernel
theorem dX19_segment_42 : decode cX19_segment 42 = .ok (.iload 6, 2) := by decide +kernel
theorem dX19_segment_44 : decode cX19_segment 44 = .ok (.aaload, 1) := by decide +kernel
theorem dX19_segment_45 : decode cX19_segment 45 = .ok (.getfield 350, 3) := by decide +kernel
theorem dX19_segment_48 : decode cX19_segment 48 = .ok (.ifCond .eq 104, 3) := by decide +kernel
theorem dX19_segment_51 : decode cX19_segment 51 = .ok (.aload 7, 2) := by decide +kernel
theorem dX19_segment_53 : decode cX19_segment 53 = .ok (.invokevirtual 776, 3) := by decide +kernel
theorem dX19_segment_56 : decode cX19_segment 56 = .ok (.ifCond .ne 96, 3) := by decide +kernel
theorem dX19_segment_59 : decode cX19_segment 59 = .ok (.aload 7, 2) := by decide +kernel
theorem dX19_segment_61 : decode cX19_segment 61 = .ok (.getfield 358, 3) := by decide +kernel
theorem dX19_segment_64 : decode cX19_segment 64 = .ok (.iload 4, 2) := by decide +kernel
theorem dX19_segment_66 : decode cX19_segment 66 = .ok (.if_icmp .ne 86, 3) := by decide +kernel
theorem dX19_segment_69 : decode cX19_segment 69 = .ok (.aload 7, 2) := by decide +kernel
theorem dX19_segment_71 : decode cX19_segment 71 = .ok (.getfield 361, 3) := by decide +kernel
theorem dX19_segment_74 : decode cX19_segment 74 = .ok (.iload_n 3, 1) := by decide +kernel
theorem dX19_segment_75 : decode cX19_segment 75 = .ok (.if_icmp .ne 77, 3) := by decide +kernel
theorem dX19_segment_78 : decode cX19_segment 78 = .ok (.aload 7, 2) := by decide +kernel
theorem dX19_segment_80 : decode cX19_segment 80 = .ok (.getfield 364, 3) := by decide +kernel
theorem dX19_segment_83 : decode cX19_segment 83 = .ok (.iload 5, 2) := by decide +kernel
theorem dX19_segment_85 : decode cX19_segment 85 = .ok (.if_icmp .ne 67, 3) := by decide +kernel
theorem dX19_segment_88 : decode cX19_segment 88 = .ok (.aload_n 0, 1) := by decide +kernel
theorem dX19_segment_89 : decode cX19_segment 89 = .ok (.aload 7, 2) := by decide +kernel
theorem dX19_segment_91 : decode cX19_segment 91 = .ok (.iload_n 2, 1) := by decide +kernel
theorem dX19_segment_92 : decode cX19_segment 92 = .ok (.invokevirtual 779, 3) := by decide +kernel
theorem dX19_segment_95 : decode cX19_segment 95 = .ok (.ifCond .eq 56, 3) := by decide +kernel
theorem dX19_segment_98 : decode cX19_segment 98 = .ok (.aload 7, 2) := by decide +kernel
theorem dX19_segment_100 : decode cX19_segment 100 = .ok (.aload 7, 2) := by decide +kernel
theorem dX19_segment_102 : decode cX19_segment 102 = .ok (.getfield 588, 3) := by decide +kernel
theorem dX19_segment_105 : decode cX19_segment 105 = .ok (.aload 7, 2) := by decide +kernel
theorem dX19_segment_107 : decode cX19_segment 107 = .ok (.getfield 576, 3) := by decide +kernel
theorem dX19_segment_110 : decode cX19_segment 110 = .ok (.invokevirtual 754, 3) := by decide +kernel
theorem dX19_segment_113 : decode cX19_segment 113 = .ok (.aload_n 0, 1) := by decide +kernel
theorem dX19_segment_114 : decode cX19_segment 114 = .ok (.getfield 90, 3) := by decide +kernel
theorem dX19_segment_117 : decode cX19_segment 117 = .ok (.aload 7, 2) := by decide +kernel
theorem dX19_segment_119 : decode cX19_segment 119 = .ok (.getfield 732, 3) := by decide +kernel
theorem dX19_segment_122 : decode cX19_segment 122 = .ok (.iconst 0, 1) := by decide +kernel
theorem dX19_segment_123 : decode cX19_segment 123 = .ok (.iastore, 1) := by decide +kernel
theorem dX19_segment_124 : decode cX19_segment 124 = .ok (.aload_n 0, 1) := by decide +kernel
theorem dX19_segment_125 : decode cX19_segment 125 = .ok (.aload 7, 2) := by decide +kernel
theorem dX19_segment_127 : decode cX19_segment 127 = .ok (.getfield 594, 3) := by decide +kernel
theorem dX19_segment_130 : decode cX19_segment 130 = .ok (.invokevirtual 50, 3) := by decide +kernel
theorem dX19_segment_133 : decode cX19_segment 133 = .ok (.aload 7, 2) := by decide +kernel
theorem dX19_segment_135 : decode cX19_segment 135 = .ok (.iconst (-1), 1) := by decide +kernel
theorem dX19_segment_136 : decode cX19_segment 136 = .ok (.putfield 594, 3) := by decide +kernel
theorem dX19_segment_139 : decode cX19_segment 139 = .ok (.aload 7, 2) := by decide +kernel
theorem dX19_segment_141 : decode cX19_segment 141 = .ok (.iconst 1, 1) := by decide +kernel
theorem dX19_segment_142 : decode cX19_segment 142 = .ok (.putfield 353, 3) := by decide +kernel
theorem dX19_segment_145 : decode cX19_segment 145 = .ok (.aload 7, 2) := by decide +kernel
theorem dX19_segment_147 : decode cX19_segment 147 = .ok (.iconst 1, 1) := by decide +kernel
theorem dX19_segment_148 : decode cX19_segment 148 = .ok (.putfield 631, 3) := by decide +kernel
theorem dX19_segment_151 : decode cX19_segment 151 = .ok (.return_, 1) := by decide +kernel
theorem dX19_segment_152 : decode cX19_segment 152 = .ok (.iinc 6 1, 3) := by decide +kernel
theorem dX19_segment_155 : decode cX19_segment 155 = .ok (.goto (-136), 3) := by decide +kernel
theorem dX19_segment_158 : decode cX19_segment 158 = .ok (.aload_n 0, 1) := by decide +kernel
theorem dX19_segment_159 : decode cX19_segment 159 = .ok (.iload_n 2, 1) := by decide +kernel
theorem dX19_segment_160 : decode cX19_segment 160 = .ok (.iconst 1, 1) := by decide +kernel
theorem dX19_segment_161 : decode cX19_segment 161 = .ok (.invokevirtual 61, 3) := by decide +kernel
theorem dX19_segment_164 : decode cX19_segment 164 = .ok (.ifCond .eq 80, 3) := by decide +kernel
theorem dX19_segment_167 : decode cX19_segment 167 = .ok (.aload_n 0, 1) := by decide +kernel
theorem dX19_segment_168 : decode cX19_segment 168 = .ok (.iload_n 2, 1) := by decide +kernel
theorem dX19_segment_169 : decode cX19_segment 169 = .ok (.iconst 4, 1) := by decide +kernel
theorem dX19_segment_170 : decode cX19_segment 170 = .ok (.invokevirtual 61, 3) := by decide +kernel
theorem dX19_segment_173 : decode cX19_segment 173 = .ok (.ifCond .ne 71, 3) := by decide +kernel
theorem dX19_segment_176 : decode cX19_segment 176 = .ok (.aload_n 0, 1) := by decide +kernel
theorem dX19_segment_177 : decode cX19_segment 177 = .ok (.iload_n 2, 1) := by decide +kernel
theorem dX19_segment_178 : decode cX19_segment 178 = .ok (.bipush 8, 2) := by decide +kernel
theorem dX19_segment_180 : decode cX19_segment 180 = .ok (.invokevirtual 61, 3) := by decide +kernel
theorem dX19_segment_183 : decode cX19_segment 183 = .ok (.ifCond .ne 61, 3) := by decide +kernel
theorem dX19_segment_186 : decode cX19_segment 186 = .ok (.iconst 0, 1) := by decide +kernel
theorem dX19_segment_187 : decode cX19_segment 187 = .ok (.istore 6, 2) := by decide +kernel
theorem dX19_segment_189 : decode cX19_segment 189 = .ok (.iload 6, 2) := by decide +kernel
theorem dX19_segment_191 : decode cX19_segment 191 = .ok (.bipush 6, 2) := by decide +kernel
theorem dX19_segment_193 : decode cX19_segment 193 = .ok (.if_icmp .ge 51, 3) := by decide +kernel
theorem dX19_segment_196 : decode cX19_segment 196 = .ok (.aload_n 1, 1) := by decide +kernel
theorem dX19_segment_197 : decode cX19_segment 197 = .ok (.getfield 340, 3) := by decide +kernel
theorem dX19_segment_200 : decode cX19_segment 200 = .ok (.iload 6, 2) := by decide +kernel
theorem dX19_segment_202 : decode cX19_segment 202 = .ok (.aaload, 1) := by decide +kernel
theorem dX19_segment_203 : decode cX19_segment 203 = .ok (.getfield 747, 3) := by decide +kernel
theorem dX19_segment_206 : decode cX19_segment 206 = .ok (.ifCond .eq 32, 3) := by decide +kernel
theorem dX19_segment_209 : decode cX19_segment 209 = .ok (.aload_n 1, 1) := by decide +kernel
theorem dX19_segment_210 : decode cX19_segment 210 = .ok (.getfield 340, 3) := by decide +kernel
theorem dX19_segment_213 : decode cX19_segment 213 = .ok (.iload 6, 2) := by decide +kernel
theorem dX19_segment_215 : decode cX19_segment 215 = .ok (.aaload, 1) := by decide +kernel
theorem dX19_segment_216 : decode cX19_segment 216 = .ok (.getfield 783, 3) := by decide +kernel
theorem dX19_segment_219 : decode cX19_segment 219 = .ok (.iload 4, 2) := by decide +kernel
theorem dX19_segment_221 : decode cX19_segment 221 = .ok (.if_icmp .ne 17, 3) := by decide +kernel
theorem dX19_segment_224 : decode cX19_segment 224 = .ok (.aload_n 0, 1) := by decide +kernel
theorem dX19_segment_225 : decode cX19_segment 225 = .ok (.aload_n 1, 1) := by decide +kernel
theorem dX19_segment_226 : decode cX19_segment 226 = .ok (.iload 6, 2) := by decide +kernel
theorem dX19_segment_228 : decode cX19_segment 228 = .ok (.iload_n 2, 1) := by decide +kernel
theorem dX19_segment_229 : decode cX19_segment 229 = .ok (.iload 4, 2) := by decide +kernel
theorem dX19_segment_231 : decode cX19_segment 231 = .ok (.iload_n 3, 1) := by decide +kernel
theorem dX19_segment_232 : decode cX19_segment 232 = .ok (.iload 5, 2) := by decide +kernel
theorem dX19_segment_234 : decode cX19_segment 234 = .ok (.invokevirtual 784, 3) := by decide +kernel
theorem dX19_segment_237 : decode cX19_segment 237 = .ok (.return_, 1) := by decide +kernel
theorem dX19_segment_238 : decode cX19_segment 238 = .ok (.iinc 6 1, 3) := by decide +kernel
theorem dX19_segment_241 : decode cX19_segment 241 = .ok (.goto (-52), 3) := by decide +kernel
theorem dX19_segment_244 : decode cX19_segment 244 = .ok (.aload_n 0, 1) := by decide +kernel
theorem dX19_segment_245 : decode cX19_segment 245 = .ok (.iload_n 2, 1) := by decide +kernel
theorem dX19_segment_246 : decode cX19_segment 246 = .ok (.iconst 4, 1) := by decide +kernel
theorem dX19_segment_247 : decode cX19_segment 247 = .ok (.invokevirtual 61, 3) := by decide +kernel
theorem dX19_segment_250 : decode cX19_segment 250 = .ok (.ifCond .ne 84, 3) := by decide +kernel
theorem dX19_segment_253 : decode cX19_segment 253 = .ok (.aload_n 0, 1) := by decide +kernel
theorem dX19_segment_254 : decode cX19_segment 254 = .ok (.iload_n 2, 1) := by decide +kernel
theorem dX19_segment_255 : decode cX19_segment 255 = .ok (.bipush 8, 2) := by decide +kernel
theorem dX19_segment_257 : decode cX19_segment 257 = .ok (.invokevirtual 61, 3) := by decide +kernel
theorem dX19_segment_260 : decode cX19_segment 260 = .ok (.istore 6, 2) := by decide +kernel
theorem dX19_segment_262 : decode cX19_segment 262 = .ok (.aload_n 0, 1) := by decide +kernel
theorem dX19_segment_263 : decode cX19_segment 263 = .ok (.iload 6, 2) := by decide +kernel
theorem dX19_segment_265 : decode cX19_segment 265 = .ok (.ifCond .eq 7, 3) := by decide +kernel
theorem dX19_segment_268 : decode cX19_segment 268 = .ok (.iconst 4, 1) := by decide +kernel
theorem dX19_segment_269 : decode cX19_segment 269 = .ok (.goto 5, 3) := by decide +kernel
theorem dX19_segment_272 : decode cX19_segment 272 = .ok (.bipush 12, 2) := by decide +kernel
theorem dX19_segment_274 : decode cX19_segment 274 = .ok (.iload 6, 2) := by decide +kernel
theorem dX19_segment_276 : decode cX19_segment 276 = .ok (.ifCond .eq 12, 3) := by decide +kernel
theorem dX19_segment_279 : decode cX19_segment 279 = .ok (.aload_n 0, 1) := by decide +kernel
theorem dX19_segment_280 : decode cX19_segment 280 = .ok (.iload_n 2, 1) := by decide +kernel
theorem dX19_segment_281 : decode cX19_segment 281 = .ok (.iconst 4, 1) := by decide +kernel
theorem dX19_segment_282 : decode cX19_segment 282 = .ok (.invokevirtual 47, 3) := by decide +kernel
theorem dX19_segment_285 : decode cX19_segment 285 = .ok (.goto 4, 3) := by decide +kernel
theorem dX19_segment_288 : decode cX19_segment 288 = .ok (.iconst 0, 1) := by decide +kernel
theorem dX19_segment_289 : decode cX19_segment 289 = .ok (.invokevirtual 685, 3) := by decide +kernel
theorem dX19_segment_292 : decode cX19_segment 292 = .ok (.istore 7, 2) := by decide +kernel
theorem dX19_segment_294 : decode cX19_segment 294 = .ok (.aload_n 0, 1) := by decide +kernel
theorem dX19_segment_295 : decode cX19_segment 295 = .ok (.iload 7, 2) := by decide +kernel
theorem dX19_segment_297 : decode cX19_segment 297 = .ok (.iconst 4, 1) := by decide +kernel
theorem dX19_segment_298 : decode cX19_segment 298 = .ok (.iload 6, 2) := by decide +kernel
theorem dX19_segment_300 : decode cX19_segment 300 = .ok (.ifCond .eq 7, 3) := by decide +kernel
theorem dX19_segment_303 : decode cX19_segment 303 = .ok (.iconst 0, 1) := by decide +kernel
theorem dX19_segment_304 : decode cX19_segment 304 = .ok (.goto 15, 3) := by decide +kernel
theorem dX19_segment_307 : decode cX19_segment 307 = .ok (.aload_n 0, 1) := by decide +kernel
theorem dX19_segment_308 : decode cX19_segment 308 = .ok (.iload_n 2, 1) := by decide +kernel
theorem dX19_segment_309 : decode cX19_segment 309 = .ok (.iconst 3, 1) := by decide +kernel
theorem dX19_segment_310 : decode cX19_segment 310 = .ok (.invokevirtual 47, 3) := by decide +kernel
theorem dX19_segment_313 : decode cX19_segment 313 = .ok (.aload_n 0, 1) := by decide +kernel
theorem dX19_segment_314 : decode cX19_segment 314 = .ok (.iload_n 2, 1) := by decide +kernel
theorem dX19_segment_315 : decode cX19_segment 315 = .ok (.invokevirtual 564, 3) := by decide +kernel
theorem dX19_segment_318 : decode cX19_segment 318 = .ok (.iadd, 1) := by decide +kernel
theorem dX19_segment_319 : decode cX19_segment 319 = .ok (.invokevirtual 44, 3) := by decide +kernel
theorem dX19_segment_322 : decode cX19_segment 322 = .ok (.aload_n 0, 1) := by decide +kernel
theorem dX19_segment_323 : decode cX19_segment 323 = .ok (.aload_n 1, 1) := by decide +kernel
theorem dX19_segment_324 : decode cX19_segment 324 = .ok (.iload 7, 2) := by decide +kernel
theorem dX19_segment_326 : decode cX19_segment 326 = .ok (.iload 4, 2) := by decide +kernel
theorem dX19_segment_328 : decode cX19_segment 328 = .ok (.iload_n 3, 1) := by decide +kernel
theorem dX19_segment_329 : decode cX19_segment 329 = .ok (.iload 5, 2) := by decide +kernel
theorem dX19_segment_331 : decode cX19_segment 331 = .ok (.invokevirtual 788, 3) := by decide +kernel
theorem dX19_segment_334 : decode cX19_segment 334 = .ok (.return_, 1) := by decide +kernel
theorem dX19_knock_0 : decode cX19_knock 0 = .ok (.iconst 0, 1) := by decide +kernel
theorem dX19_knock_1 : decode cX19_knock 1 = .ok (.istore 7, 2) := by decide +kernel
theorem dX19_knock_3 : decode cX19_knock 3 = .ok (.iconst 0, 1) := by decide +kernel
theorem dX19_knock_4 : decode cX19_knock 4 = .ok (.istore 8, 2) := by decide +kernel
theorem dX19_knock_6 : decode cX19_knock 6 = .ok (.iload 8, 2) := by decide +kernel
theorem dX19_knock_8 : decode cX19_knock 8 = .ok (.bipush 6, 2) := by decide +kernel
theorem dX19_knock_10 : decode cX19_knock 10 = .ok (.if_icmp .ge 57, 3) := by decide +kernel
theorem dX19_knock_13 : decode cX19_knock 13 = .ok (.aload_n 1, 1) := by decide +kernel
theorem dX19_knock_14 : decode cX19_knock 14 = .ok (.getfield 340, 3) := by decide +kernel
theorem dX19_knock_17 : decode cX19_knock 17 = .ok (.iload 8, 2) := by decide +kernel
theorem dX19_knock_19 : decode cX19_knock 19 = .ok (.aaload, 1) := by decide +kernel
theorem dX19_knock_20 : decode cX19_knock 20 = .ok (.astore 9, 2) := by decide +kernel
theorem dX19_knock_22 : decode cX19_knock 22 = .ok (.iload 7, 2) := by decide +kernel
theorem dX19_knock_24 : decode cX19_knock 24 = .ok (.aload 9, 2) := by decide +kernel
theorem dX19_knock_26 : decode cX19_knock 26 = .ok (.getfield 350, 3) := by decide +kernel
theorem dX19_knock_29 : decode cX19_knock 29 = .ok (.ifCond .eq 28, 3) := by decide +kernel
theorem dX19_knock_32 : decode cX19_knock 32 = .ok (.aload 9, 2) := by decide +kernel
theorem dX19_knock_34 : decode cX19_knock 34 = .ok (.getfield 761, 3) := by decide +kernel
theorem dX19_knock_37 : decode cX19_knock 37 = .ok (.iload_n 2, 1) := by decide +kernel
theorem dX19_knock_38 : decode cX19_knock 38 = .ok (.if_icmp .ne 19, 3) := by decide +kernel
theorem dX19_knock_41 : decode cX19_knock 41 = .ok (.aload 9, 2) := by decide +kernel
theorem dX19_knock_43 : decode cX19_knock 43 = .ok (.getfield 344, 3) := by decide +kernel
theorem dX19_knock_46 : decode cX19_knock 46 = .ok (.getfield 353, 3) := by decide +kernel
theorem dX19_knock_49 : decode cX19_knock 49 = .ok (.iconst 3, 1) := by decide +kernel
theorem dX19_knock_50 : decode cX19_knock 50 = .ok (.if_icmp .ne 7, 3) := by decide +kernel
theorem dX19_knock_53 : decode cX19_knock 53 = .ok (.iconst 1, 1) := by decide +kernel
theorem dX19_knock_54 : decode cX19_knock 54 = .ok (.goto 4, 3) := by decide +kernel
theorem dX19_knock_57 : decode cX19_knock 57 = .ok (.iconst 0, 1) := by decide +kernel
theorem dX19_knock_58 : decode cX19_knock 58 = .ok (.iadd, 1) := by decide +kernel
theorem dX19_knock_59 : decode cX19_knock 59 = .ok (.istore 7, 2) := by decide +kernel
theorem dX19_knock_61 : decode cX19_knock 61 = .ok (.iinc 8 1, 3) := by decide +kernel
theorem dX19_knock_64 : decode cX19_knock 64 = .ok (.goto (-58), 3) := by decide +kernel
theorem dX19_knock_67 : decode cX19_knock 67 = .ok (.aload_n 1, 1) := by decide +kernel
theorem dX19_knock_68 : decode cX19_knock 68 = .ok (.invokestatic 791, 3) := by decide +kernel
theorem dX19_knock_71 : decode cX19_knock 71 = .ok (.istore 8, 2) := by decide +kernel
theorem dX19_knock_73 : decode cX19_knock 73 = .ok (.iload 7, 2) := by decide +kernel
theorem dX19_knock_75 : decode cX19_knock 75 = .ok (.aload_n 1, 1) := by decide +kernel
theorem dX19_knock_76 : decode cX19_knock 76 = .ok (.getfield 340, 3) := by decide +kernel
theorem dX19_knock_79 : decode cX19_knock 79 = .ok (.iload_n 2, 1) := by decide +kernel
theorem dX19_knock_80 : decode cX19_knock 80 = .ok (.aaload, 1) := by decide +kernel
theorem dX19_knock_81 : decode cX19_knock 81 = .ok (.getfield 794, 3) := by decide +kernel
theorem dX19_knock_84 : decode cX19_knock 84 = .ok (.if_icmp .ge 9, 3) := by decide +kernel
theorem dX19_knock_87 : decode cX19_knock 87 = .ok (.iload 8, 2) := by decide +kernel
theorem dX19_knock_89 : decode cX19_knock 89 = .ok (.iconst (-1), 1) := by decide +kernel
theorem dX19_knock_90 : decode cX19_knock 90 = .ok (.if_icmp .ne 4, 3) := by decide +kernel
theorem dX19_knock_93 : decode cX19_knock 93 = .ok (.return_, 1) := by decide +kernel
theorem dX19_knock_94 : decode cX19_knock 94 = .ok (.aload_n 1, 1) := by decide +kernel
theorem dX19_knock_95 : decode cX19_knock 95 = .ok (.getfield 340, 3) := by decide +kernel
theorem dX19_knock_98 : decode cX19_knock 98 = .ok (.iload 8, 2) := by decide +kernel
theorem dX19_knock_100 : decode cX19_knock 100 = .ok (.aaload, 1) := by decide +kernel
theorem dX19_knock_101 : decode cX19_knock 101 = .ok (.astore 9, 2) := by decide +kernel
theorem dX19_knock_103 : decode cX19_knock 103 = .ok (.aload_n 0, 1) := by decide +kernel
theorem dX19_knock_104 : decode cX19_knock 104 = .ok (.aload_n 1, 1) := by decide +kernel
theorem dX19_knock_105 : decode cX19_knock 105 = .ok (.aload 9, 2) := by decide +kernel
theorem dX19_knock_107 : decode cX19_knock 107 = .ok (.iload 4, 2) := by decide +kernel
theorem dX19_knock_109 : decode cX19_knock 109 = .ok (.iload 5, 2) := by decide +kernel
theorem dX19_knock_111 : decode cX19_knock 111 = .ok (.iload 6, 2) := by decide +kernel
theorem dX19_knock_113 : decode cX19_knock 113 = .ok (.invokevirtual 797, 3) := by decide +kernel
theorem dX19_knock_116 : decode cX19_knock 116 = .ok (.aload 9, 2) := by decide +kernel
theorem dX19_knock_118 : decode cX19_knock 118 = .ok (.iload_n 2, 1) := by decide +kernel
theorem dX19_knock_119 : decode cX19_knock 119 = .ok (.putfield 761, 3) := by decide +kernel
theorem dX19_knock_122 : decode cX19_knock 122 = .ok (.aload 9, 2) := by decide +kernel
theorem dX19_knock_124 : decode cX19_knock 124 = .ok (.iconst 1, 1) := by decide +kernel
theorem dX19_knock_125 : decode cX19_knock 125 = .ok (.putfield 764, 3) := by decide +kernel
theorem dX19_knock_128 : decode cX19_knock 128 = .ok (.aload 9, 2) := by decide +kernel
theorem dX19_knock_130 : decode cX19_knock 130 = .ok (.getfield 344, 3) := by decide +kernel
theorem dX19_knock_133 : decode cX19_knock 133 = .ok (.iconst 1, 1) := by decide +kernel
theorem dX19_knock_134 : decode cX19_knock 134 = .ok (.putfield 353, 3) := by decide +kernel
theorem dX19_knock_137 : decode cX19_knock 137 = .ok (.aload 9, 2) := by decide +kernel
theorem dX19_knock_139 : decode cX19_knock 139 = .ok (.getfield 344, 3) := by decide +kernel
theorem dX19_knock_142 : decode cX19_knock 142 = .ok (.iconst 1, 1) := by decide +kernel
theorem dX19_knock_143 : decode cX19_knock 143 = .ok (.putfield 631, 3) := by decide +kernel
theorem dX19_knock_146 : decode cX19_knock 146 = .ok (.aload_n 0, 1) := by decide +kernel
theorem dX19_knock_147 : decode cX19_knock 147 = .ok (.aload 9, 2) := by decide +kernel
theorem dX19_knock_149 : decode cX19_knock 149 = .ok (.getfield 344, 3) := by decide +kernel
theorem dX19_knock_152 : decode cX19_knock 152 = .ok (.iload_n 3, 1) := by decide +kernel
theorem dX19_knock_153 : decode cX19_knock 153 = .ok (.invokevirtual 779, 3) := by decide +kernel
theorem dX19_knock_156 : decode cX19_knock 156 = .ok (.pop, 1) := by decide +kernel
theorem dX19_knock_157 : decode cX19_knock 157 = .ok (.return_, 1) := by decide +kernel
theorem dX19_read_0 : decode cX19_read 0 = .ok (.aload_n 1, 1) := by decide +kernel
theorem dX19_read_1 : decode cX19_read 1 = .ok (.invokevirtual 801, 3) := by decide +kernel
theorem dX19_read_4 : decode cX19_read 4 = .ok (.istore_n 2, 1) := by decide +kernel
theorem dX19_read_5 : decode cX19_read 5 = .ok (.aload_n 1, 1) := by decide +kernel
theorem dX19_read_6 : decode cX19_read 6 = .ok (.getfield 594, 3) := by decide +kernel
theorem dX19_read_9 : decode cX19_read 9 = .ok (.iconst (-1), 1) := by decide +kernel
theorem dX19_read_10 : decode cX19_read 10 = .ok (.if_icmp .eq 39, 3) := by decide +kernel
theorem dX19_read_13 : decode cX19_read 13 = .ok (.aload_n 1, 1) := by decide +kernel
theorem dX19_read_14 : decode cX19_read 14 = .ok (.getfield 597, 3) := by decide +kernel
theorem dX19_read_17 : decode cX19_read 17 = .ok (.aload_n 0, 1) := by decide +kernel
theorem dX19_read_18 : decode cX19_read 18 = .ok (.getfield 90, 3) := by decide +kernel
theorem dX19_read_21 : decode cX19_read 21 = .ok (.aload_n 1, 1) := by decide +kernel
theorem dX19_read_22 : decode cX19_read 22 = .ok (.getfield 594, 3) := by decide +kernel
theorem dX19_read_25 : decode cX19_read 25 = .ok (.iaload, 1) := by decide +kernel
theorem dX19_read_26 : decode cX19_read 26 = .ok (.if_icmp .ge 23, 3) := by decide +kernel
theorem dX19_read_29 : decode cX19_read 29 = .ok (.aload_n 0, 1) := by decide +kernel
theorem dX19_read_30 : decode cX19_read 30 = .ok (.aload_n 1, 1) := by decide +kernel
theorem dX19_read_31 : decode cX19_read 31 = .ok (.getfield 594, 3) := by decide +kernel
theorem dX19_read_34 : decode cX19_read 34 = .ok (.aload_n 1, 1) := by decide +kernel
theorem dX19_read_35 : decode cX19_read 35 = .ok (.getfield 597, 3) := by decide +kernel
theorem dX19_read_38 : decode cX19_read 38 = .ok (.invokevirtual 804, 3) := by decide +kernel
theorem dX19_read_41 : decode cX19_read 41 = .ok (.iload_n 2, 1) := by decide +kernel
theorem dX19_read_42 : decode cX19_read 42 = .ok (.if_icmp .ne 7, 3) := by decide +kernel
theorem dX19_read_45 : decode cX19_read 45 = .ok (.iconst 1, 1) := by decide +kernel
theorem dX19_read_46 : decode cX19_read 46 = .ok (.goto 4, 3) := by decide +kernel
theorem dX19_read_49 : decode cX19_read 49 = .ok (.iconst 0, 1) := by decide +kernel
theorem dX19_read_50 : decode cX19_read 50 = .ok (.istore_n 3, 1) := by decide +kernel
theorem dX19_read_51 : decode cX19_read 51 = .ok (.aload_n 0, 1) := by decide +kernel
theorem dX19_read_52 : decode cX19_read 52 = .ok (.dup, 1) := by decide +kernel
theorem dX19_read_53 : decode cX19_read 53 = .ok (.getfield 807, 3) := by decide +kernel
theorem dX19_read_56 : decode cX19_read 56 = .ok (.iload_n 3, 1) := by decide +kernel
theorem dX19_read_57 : decode cX19_read 57 = .ok (.ifCond .eq 7, 3) := by decide +kernel
theorem dX19_read_60 : decode cX19_read 60 = .ok (.iconst 0, 1) := by decide +kernel
theorem dX19_read_61 : decode cX19_read 61 = .ok (.goto 4, 3) := by decide +kernel
theorem dX19_read_64 : decode cX19_read 64 = .ok (.iconst 1, 1) := by decide +kernel
theorem dX19_read_65 : decode cX19_read 65 = .ok (.iadd, 1) := by decide +kernel
theorem dX19_read_66 : decode cX19_read 66 = .ok (.putfield 807, 3) := by decide +kernel
theorem dX19_read_69 : decode cX19_read 69 = .ok (.aload_n 1, 1) := by decide +kernel
theorem dX19_read_70 : decode cX19_read 70 = .ok (.dup, 1) := by decide +kernel
theorem dX19_read_71 : decode cX19_read 71 = .ok (.getfield 597, 3) := by decide +kernel
theorem dX19_read_74 : decode cX19_read 74 = .ok (.iconst 1, 1) := by decide +kernel
theorem dX19_read_75 : decode cX19_read 75 = .ok (.iadd, 1) := by decide +kernel
theorem dX19_read_76 : decode cX19_read 76 = .ok (.putfield 597, 3) := by decide +kernel
theorem dX19_read_79 : decode cX19_read 79 = .ok (.iload_n 2, 1) := by decide +kernel
theorem dX19_read_80 : decode cX19_read 80 = .ok (.ireturn, 1) := by decide +kernel
theorem dX19_doorTurn_0 : decode cX19_doorTurn 0 = .ok (.aload_n 2, 1) := by decide +kernel
theorem dX19_doorTurn_1 : decode cX19_doorTurn 1 = .ok (.getfield 350, 3) := by decide +kernel
theorem dX19_doorTurn_4 : decode cX19_doorTurn 4 = .ok (.ifCond .ne 4, 3) := by decide +kernel
theorem dX19_doorTurn_7 : decode cX19_doorTurn 7 = .ok (.return_, 1) := by decide +kernel
theorem dX19_doorTurn_8 : decode cX19_doorTurn 8 = .ok (.aload_n 2, 1) := by decide +kernel
theorem dX19_doorTurn_9 : decode cX19_doorTurn 9 = .ok (.getfield 344, 3) := by decide +kernel
theorem dX19_doorTurn_12 : decode cX19_doorTurn 12 = .ok (.astore_n 3, 1) := by decide +kernel
theorem dX19_doorTurn_13 : decode cX19_doorTurn 13 = .ok (.aload_n 3, 1) := by decide +kernel
theorem dX19_doorTurn_14 : decode cX19_doorTurn 14 = .ok (.getfield 353, 3) := by decide +kernel
theorem dX19_doorTurn_17 : decode cX19_doorTurn 17 = .ok (.bipush 10, 2) := by decide +kernel
theorem dX19_doorTurn_19 : decode cX19_doorTurn 19 = .ok (.if_icmp .ne 23, 3) := by decide +kernel
theorem dX19_doorTurn_22 : decode cX19_doorTurn 22 = .ok (.aload_n 0, 1) := by decide +kernel
theorem dX19_doorTurn_23 : decode cX19_doorTurn 23 = .ok (.getfield 143, 3) := by decide +kernel
theorem dX19_doorTurn_26 : decode cX19_doorTurn 26 = .ok (.aload_n 3, 1) := by decide +kernel
theorem dX19_doorTurn_27 : decode cX19_doorTurn 27 = .ok (.getfield 628, 3) := by decide +kernel
theorem dX19_doorTurn_30 : decode cX19_doorTurn 30 = .ok (.if_icmp .lt 12, 3) := by decide +kernel
theorem dX19_doorTurn_33 : decode cX19_doorTurn 33 = .ok (.aload_n 3, 1) := by decide +kernel
theorem dX19_doorTurn_34 : decode cX19_doorTurn 34 = .ok (.iconst 0, 1) := by decide +kernel
theorem dX19_doorTurn_35 : decode cX19_doorTurn 35 = .ok (.aload_n 0, 1) := by decide +kernel
theorem dX19_doorTurn_36 : decode cX19_doorTurn 36 = .ok (.getfield 143, 3) := by decide +kernel
theorem dX19_doorTurn_39 : decode cX19_doorTurn 39 = .ok (.invokevirtual 367, 3) := by decide +kernel
theorem dX19_doorTurn_42 : decode cX19_doorTurn 42 = .ok (.aload_n 3, 1) := by decide +kernel
theorem dX19_doorTurn_43 : decode cX19_doorTurn 43 = .ok (.getfield 655, 3) := by decide +kernel
theorem dX19_doorTurn_46 : decode cX19_doorTurn 46 = .ok (.ifCond .eq 22, 3) := by decide +kernel
theorem dX19_doorTurn_49 : decode cX19_doorTurn 49 = .ok (.aload_n 0, 1) := by decide +kernel
theorem dX19_doorTurn_50 : decode cX19_doorTurn 50 = .ok (.getfield 143, 3) := by decide +kernel
theorem dX19_doorTurn_53 : decode cX19_doorTurn 53 = .ok (.aload_n 3, 1) := by decide +kernel
theorem dX19_doorTurn_54 : decode cX19_doorTurn 54 = .ok (.getfield 810, 3) := by decide +kernel
theorem dX19_doorTurn_57 : decode cX19_doorTurn 57 = .ok (.if_icmp .lt 11, 3) := by decide +kernel
theorem dX19_doorTurn_60 : decode cX19_doorTurn 60 = .ok (.aload_n 3, 1) := by decide +kernel
theorem dX19_doorTurn_61 : decode cX19_doorTurn 61 = .ok (.aload_n 0, 1) := by decide +kernel
theorem dX19_doorTurn_62 : decode cX19_doorTurn 62 = .ok (.getfield 143, 3) := by decide +kernel
theorem dX19_doorTurn_65 : decode cX19_doorTurn 65 = .ok (.invokevirtual 813, 3) := by decide +kernel
theorem dX19_doorTurn_68 : decode cX19_doorTurn 68 = .ok (.aload_n 0, 1) := by decide +kernel
theorem dX19_doorTurn_69 : decode cX19_doorTurn 69 = .ok (.aload_n 3, 1) := by decide +kernel
theorem dX19_doorTurn_70 : decode cX19_doorTurn 70 = .ok (.invokevirtual 816, 3) := by decide +kernel
theorem dX19_doorTurn_73 : decode cX19_doorTurn 73 = .ok (.istore 4, 2) := by decide +kernel
theorem dX19_doorTurn_75 : decode cX19_doorTurn 75 = .ok (.iload 4, 2) := by decide +kernel
theorem dX19_doorTurn_77 : decode cX19_doorTurn 77 = .ok (.iconst (-1), 1) := by decide +kernel
theorem dX19_doorTurn_78 : decode cX19_doorTurn 78 = .ok (.if_icmp .eq 32, 3) := by decide +kernel
theorem dX19_doorTurn_81 : decode cX19_doorTurn 81 = .ok (.aload_n 0, 1) := by decide +kernel
theorem dX19_doorTurn_82 : decode cX19_doorTurn 82 = .ok (.aload_n 1, 1) := by decide +kernel
theorem dX19_doorTurn_83 : decode cX19_doorTurn 83 = .ok (.iload 4, 2) := by decide +kernel
theorem dX19_doorTurn_85 : decode cX19_doorTurn 85 = .ok (.aload_n 3, 1) := by decide +kernel
theorem dX19_doorTurn_86 : decode cX19_doorTurn 86 = .ok (.getfield 358, 3) := by decide +kernel
theorem dX19_doorTurn_89 : decode cX19_doorTurn 89 = .ok (.aload_n 3, 1) := by decide +kernel
theorem dX19_doorTurn_90 : decode cX19_doorTurn 90 = .ok (.getfield 361, 3) := by decide +kernel
theorem dX19_doorTurn_93 : decode cX19_doorTurn 93 = .ok (.aload_n 3, 1) := by decide +kernel
theorem dX19_doorTurn_94 : decode cX19_doorTurn 94 = .ok (.getfield 364, 3) := by decide +kernel
theorem dX19_doorTurn_97 : decode cX19_doorTurn 97 = .ok (.invokevirtual 788, 3) := by decide +kernel
theorem dX19_doorTurn_100 : decode cX19_doorTurn 100 = .ok (.aload_n 0, 1) := by decide +kernel
theorem dX19_doorTurn_101 : decode cX19_doorTurn 101 = .ok (.aload_n 3, 1) := by decide +kernel
theorem dX19_doorTurn_102 : decode cX19_doorTurn 102 = .ok (.invokevirtual 816, 3) := by decide +kernel
theorem dX19_doorTurn_105 : decode cX19_doorTurn 105 = .ok (.istore 4, 2) := by decide +kernel
theorem dX19_doorTurn_107 : decode cX19_doorTurn 107 = .ok (.goto (-32), 3) := by decide +kernel
theorem dX19_doorTurn_110 : decode cX19_doorTurn 110 = .ok (.aload_n 3, 1) := by decide +kernel
theorem dX19_doorTurn_111 : decode cX19_doorTurn 111 = .ok (.aload_n 0, 1) := by decide +kernel
theorem dX19_doorTurn_112 : decode cX19_doorTurn 112 = .ok (.getfield 143, 3) := by decide +kernel
theorem dX19_doorTurn_115 : decode cX19_doorTurn 115 = .ok (.invokevirtual 819, 3) := by decide +kernel
theorem dX19_doorTurn_118 : decode cX19_doorTurn 118 = .ok (.aload_n 2, 1) := by decide +kernel
theorem dX19_doorTurn_119 : decode cX19_doorTurn 119 = .ok (.getfield 770, 3) := by decide +kernel
theorem dX19_doorTurn_122 : decode cX19_doorTurn 122 = .ok (.ifCond .eq 30, 3) := by decide +kernel
theorem dX19_doorTurn_125 : decode cX19_doorTurn 125 = .ok (.aload_n 3, 1) := by decide +kernel
theorem dX19_doorTurn_126 : decode cX19_doorTurn 126 = .ok (.invokevirtual 679, 3) := by decide +kernel
theorem dX19_doorTurn_129 : decode cX19_doorTurn 129 = .ok (.ifCond .le 23, 3) := by decide +kernel
theorem dX19_doorTurn_132 : decode cX19_doorTurn 132 = .ok (.aload_n 2, 1) := by decide +kernel
theorem dX19_doorTurn_133 : decode cX19_doorTurn 133 = .ok (.bipush 31, 2) := by decide +kernel
theorem dX19_doorTurn_135 : decode cX19_doorTurn 135 = .ok (.aload_n 2, 1) := by decide +kernel
theorem dX19_doorTurn_136 : decode cX19_doorTurn 136 = .ok (.getfield 773, 3) := by decide +kernel
theorem dX19_doorTurn_139 : decode cX19_doorTurn 139 = .ok (.imul, 1) := by decide +kernel
theorem dX19_doorTurn_140 : decode cX19_doorTurn 140 = .ok (.aload_n 0, 1) := by decide +kernel
theorem dX19_doorTurn_141 : decode cX19_doorTurn 141 = .ok (.aload_n 3, 1) := by decide +kernel
theorem dX19_doorTurn_142 : decode cX19_doorTurn 142 = .ok (.invokevirtual 822, 3) := by decide +kernel
theorem dX19_doorTurn_145 : decode cX19_doorTurn 145 = .ok (.iadd, 1) := by decide +kernel
theorem dX19_doorTurn_146 : decode cX19_doorTurn 146 = .ok (.putfield 773, 3) := by decide +kernel
theorem dX19_doorTurn_149 : decode cX19_doorTurn 149 = .ok (.goto (-31), 3) := by decide +kernel
theorem dX19_doorTurn_152 : decode cX19_doorTurn 152 = .ok (.aload_n 3, 1) := by decide +kernel
theorem dX19_doorTurn_153 : decode cX19_doorTurn 153 = .ok (.invokevirtual 679, 3) := by decide +kernel
theorem dX19_doorTurn_156 : decode cX19_doorTurn 156 = .ok (.ifCond .le 7, 3) := by decide +kernel
theorem dX19_doorTurn_159 : decode cX19_doorTurn 159 = .ok (.aload_n 0, 1) := by decide +kernel
theorem dX19_doorTurn_160 : decode cX19_doorTurn 160 = .ok (.invokevirtual 168, 3) := by decide +kernel
theorem dX19_doorTurn_163 : decode cX19_doorTurn 163 = .ok (.aload_n 2, 1) := by decide +kernel
theorem dX19_doorTurn_164 : decode cX19_doorTurn 164 = .ok (.getfield 764, 3) := by decide +kernel
theorem dX19_doorTurn_167 : decode cX19_doorTurn 167 = .ok (.ifCond .eq 30, 3) := by decide +kernel
theorem dX19_doorTurn_170 : decode cX19_doorTurn 170 = .ok (.aload_n 3, 1) := by decide +kernel
theorem dX19_doorTurn_171 : decode cX19_doorTurn 171 = .ok (.getfield 353, 3) := by decide +kernel
theorem dX19_doorTurn_174 : decode cX19_doorTurn 174 = .ok (.iconst 1, 1) := by decide +kernel
theorem dX19_doorTurn_175 : decode cX19_doorTurn 175 = .ok (.if_icmp .eq 17, 3) := by decide +kernel
theorem dX19_doorTurn_178 : decode cX19_doorTurn 178 = .ok (.aload_n 3, 1) := by decide +kernel
theorem dX19_doorTurn_179 : decode cX19_doorTurn 179 = .ok (.invokevirtual 776, 3) := by decide +kernel
theorem dX19_doorTurn_182 : decode cX19_doorTurn 182 = .ok (.ifCond .eq 15, 3) := by decide +kernel
theorem dX19_doorTurn_185 : decode cX19_doorTurn 185 = .ok (.aload_n 2, 1) := by decide +kernel
theorem dX19_doorTurn_186 : decode cX19_doorTurn 186 = .ok (.getfield 767, 3) := by decide +kernel
theorem dX19_doorTurn_189 : decode cX19_doorTurn 189 = .ok (.ifCond .ne 8, 3) := by decide +kernel
theorem dX19_doorTurn_192 : decode cX19_doorTurn 192 = .ok (.aload_n 0, 1) := by decide +kernel
theorem dX19_doorTurn_193 : decode cX19_doorTurn 193 = .ok (.aload_n 2, 1) := by decide +kernel
theorem dX19_doorTurn_194 : decode cX19_doorTurn 194 = .ok (.invokevirtual 824, 3) := by decide +kernel
theorem dX19_doorTurn_197 : decode cX19_doorTurn 197 = .ok (.return_, 1) := by decide +kernel
theorem dX19_tick_0 : decode cX19_tick 0 = .ok (.aload_n 0, 1) := by decide +kernel
theorem dX19_tick_1 : decode cX19_tick 1 = .ok (.dup, 1) := by decide +kernel
theorem dX19_tick_2 : decode cX19_tick 2 = .ok (.getfield 143, 3) := by decide +kernel
theorem dX19_tick_5 : decode cX19_tick 5 = .ok (.iconst 1, 1) := by decide +kernel
theorem dX19_tick_6 : decode cX19_tick 6 = .ok (.iadd, 1) := by decide +kernel
theorem dX19_tick_7 : decode cX19_tick 7 = .ok (.putfield 143, 3) := by decide +kernel
theorem dX19_tick_10 : decode cX19_tick 10 = .ok (.aload_n 0, 1) := by decide +kernel
theorem dX19_tick_11 : decode cX19_tick 11 = .ok (.invokevirtual 828, 3) := by decide +kernel
theorem dX19_tick_14 : decode cX19_tick 14 = .ok (.iconst 0, 1) := by decide +kernel
theorem dX19_tick_15 : decode cX19_tick 15 = .ok (.istore_n 1, 1) := by decide +kernel
theorem dX19_tick_16 : decode cX19_tick 16 = .ok (.iload_n 1, 1) := by decide +kernel
theorem dX19_tick_17 : decode cX19_tick 17 = .ok (.aload_n 0, 1) := by decide +kernel
theorem dX19_tick_18 : decode cX19_tick 18 = .ok (.getfield 831, 3) := by decide +kernel
theorem dX19_tick_21 : decode cX19_tick 21 = .ok (.if_icmp .ge 153, 3) := by decide +kernel
theorem dX19_tick_24 : decode cX19_tick 24 = .ok (.aload_n 0, 1) := by decide +kernel
theorem dX19_tick_25 : decode cX19_tick 25 = .ok (.getfield 114, 3) := by decide +kernel
theorem dX19_tick_28 : decode cX19_tick 28 = .ok (.iload_n 1, 1) := by decide +kernel
theorem dX19_tick_29 : decode cX19_tick 29 = .ok (.aaload, 1) := by decide +kernel
theorem dX19_tick_30 : decode cX19_tick 30 = .ok (.astore_n 2, 1) := by decide +kernel
theorem dX19_tick_31 : decode cX19_tick 31 = .ok (.iconst 0, 1) := by decide +kernel
theorem dX19_tick_32 : decode cX19_tick 32 = .ok (.istore_n 3, 1) := by decide +kernel
theorem dX19_tick_33 : decode cX19_tick 33 = .ok (.iload_n 3, 1) := by decide +kernel
theorem dX19_tick_34 : decode cX19_tick 34 = .ok (.aload_n 2, 1) := by decide +kernel
theorem dX19_tick_35 : decode cX19_tick 35 = .ok (.getfield 273, 3) := by decide +kernel
theorem dX19_tick_38 : decode cX19_tick 38 = .ok (.if_icmp .ge 19, 3) := by decide +kernel
theorem dX19_tick_41 : decode cX19_tick 41 = .ok (.aload_n 0, 1) := by decide +kernel
theorem dX19_tick_42 : decode cX19_tick 42 = .ok (.aload_n 2, 1) := by decide +kernel
theorem dX19_tick_43 : decode cX19_tick 43 = .ok (.getfield 276, 3) := by decide +kernel
theorem dX19_tick_46 : decode cX19_tick 46 = .ok (.iload_n 3, 1) := by decide +kernel
theorem dX19_tick_47 : decode cX19_tick 47 = .ok (.aaload, 1) := by decide +kernel
theorem dX19_tick_48 : decode cX19_tick 48 = .ok (.invokevirtual 834, 3) := by decide +kernel
theorem dX19_tick_51 : decode cX19_tick 51 = .ok (.iinc 3 1, 3) := by decide +kernel
theorem dX19_tick_54 : decode cX19_tick 54 = .ok (.goto (-21), 3) := by decide +kernel
theorem dX19_tick_57 : decode cX19_tick 57 = .ok (.iconst 0, 1) := by decide +kernel
theorem dX19_tick_58 : decode cX19_tick 58 = .ok (.istore_n 3, 1) := by decide +kernel
theorem dX19_tick_59 : decode cX19_tick 59 = .ok (.iload_n 3, 1) := by decide +kernel
theorem dX19_tick_60 : decode cX19_tick 60 = .ok (.aload_n 2, 1) := by decide +kernel
theorem dX19_tick_61 : decode cX19_tick 61 = .ok (.getfield 392, 3) := by decide +kernel
theorem dX19_tick_64 : decode cX19_tick 64 = .ok (.if_icmp .ge 41, 3) := by decide +kernel
theorem dX19_tick_67 : decode cX19_tick 67 = .ok (.aload_n 0, 1) := by decide +kernel
theorem dX19_tick_68 : decode cX19_tick 68 = .ok (.getfield 143, 3) := by decide +kernel
theorem dX19_tick_71 : decode cX19_tick 71 = .ok (.aload_n 2, 1) := by decide +kernel
theorem dX19_tick_72 : decode cX19_tick 72 = .ok (.getfield 395, 3) := by decide +kernel
theorem dX19_tick_75 : decode cX19_tick 75 = .ok (.iload_n 3, 1) := by decide +kernel
theorem dX19_tick_76 : decode cX19_tick 76 = .ok (.aaload, 1) := by decide +kernel
theorem dX19_tick_77 : decode cX19_tick 77 = .ok (.getfield 414, 3) := by decide +kernel
theorem dX19_tick_80 : decode cX19_tick 80 = .ok (.isub, 1) := by decide +kernel
theorem dX19_tick_81 : decode cX19_tick 81 = .ok (.sipush 300, 3) := by decide +kernel
theorem dX19_tick_84 : decode cX19_tick 84 = .ok (.if_icmp .lt 15, 3) := by decide +kernel
theorem dX19_tick_87 : decode cX19_tick 87 = .ok (.aload_n 2, 1) := by decide +kernel
theorem dX19_tick_88 : decode cX19_tick 88 = .ok (.iload_n 3, 1) := by decide +kernel
theorem dX19_tick_89 : decode cX19_tick 89 = .ok (.invokestatic 411, 3) := by decide +kernel
theorem dX19_tick_92 : decode cX19_tick 92 = .ok (.aload_n 0, 1) := by decide +kernel
theorem dX19_tick_93 : decode cX19_tick 93 = .ok (.invokevirtual 168, 3) := by decide +kernel
theorem dX19_tick_96 : decode cX19_tick 96 = .ok (.goto (-37), 3) := by decide +kernel
theorem dX19_tick_99 : decode cX19_tick 99 = .ok (.iinc 3 1, 3) := by decide +kernel
theorem dX19_tick_102 : decode cX19_tick 102 = .ok (.goto (-43), 3) := by decide +kernel
theorem dX19_tick_105 : decode cX19_tick 105 = .ok (.aload_n 2, 1) := by decide +kernel
theorem dX19_tick_106 : decode cX19_tick 106 = .ok (.getfield 298, 3) := by decide +kernel
theorem dX19_tick_109 : decode cX19_tick 109 = .ok (.ifCond .eq 34, 3) := by decide +kernel
theorem dX19_tick_112 : decode cX19_tick 112 = .ok (.aload_n 2, 1) := by decide +kernel
theorem dX19_tick_113 : decode cX19_tick 113 = .ok (.aload_n 0, 1) := by decide +kernel
theorem dX19_tick_114 : decode cX19_tick 114 = .ok (.getfield 143, 3) := by decide +kernel
theorem dX19_tick_117 : decode cX19_tick 117 = .ok (.invokestatic 837, 3) := by decide +kernel
theorem dX19_tick_120 : decode cX19_tick 120 = .ok (.aload_n 0, 1) := by decide +kernel
theorem dX19_tick_121 : decode cX19_tick 121 = .ok (.aload_n 2, 1) := by decide +kernel
theorem dX19_tick_122 : decode cX19_tick 122 = .ok (.invokevirtual 839, 3) := by decide +kernel
theorem dX19_tick_125 : decode cX19_tick 125 = .ok (.aload_n 0, 1) := by decide +kernel
theorem dX19_tick_126 : decode cX19_tick 126 = .ok (.aload_n 2, 1) := by decide +kernel
theorem dX19_tick_127 : decode cX19_tick 127 = .ok (.invokevirtual 841, 3) := by decide +kernel
theorem dX19_tick_130 : decode cX19_tick 130 = .ok (.aload_n 0, 1) := by decide +kernel
theorem dX19_tick_131 : decode cX19_tick 131 = .ok (.aload_n 2, 1) := by decide +kernel
theorem dX19_tick_132 : decode cX19_tick 132 = .ok (.invokevirtual 844, 3) := by decide +kernel
theorem dX19_tick_135 : decode cX19_tick 135 = .ok (.aload_n 0, 1) := by decide +kernel
theorem dX19_tick_136 : decode cX19_tick 136 = .ok (.aload_n 2, 1) := by decide +kernel
theorem dX19_tick_137 : decode cX19_tick 137 = .ok (.invokevirtual 847, 3) := by decide +kernel
theorem dX19_tick_140 : decode cX19_tick 140 = .ok (.goto 28, 3) := by decide +kernel
theorem dX19_tick_143 : decode cX19_tick 143 = .ok (.iconst 0, 1) := by decide +kernel
theorem dX19_tick_144 : decode cX19_tick 144 = .ok (.istore_n 3, 1) := by decide +kernel
theorem dX19_tick_145 : decode cX19_tick 145 = .ok (.iload_n 3, 1) := by decide +kernel
theorem dX19_tick_146 : decode cX19_tick 146 = .ok (.bipush 6, 2) := by decide +kernel
theorem dX19_tick_148 : decode cX19_tick 148 = .ok (.if_icmp .ge 20, 3) := by decide +kernel
theorem dX19_tick_151 : decode cX19_tick 151 = .ok (.aload_n 0, 1) := by decide +kernel
theorem dX19_tick_152 : decode cX19_tick 152 = .ok (.aload_n 2, 1) := by decide +kernel
theorem dX19_tick_153 : decode cX19_tick 153 = .ok (.aload_n 2, 1) := by decide +kernel
theorem dX19_tick_154 : decode cX19_tick 154 = .ok (.getfield 340, 3) := by decide +kernel
theorem dX19_tick_157 : decode cX19_tick 157 = .ok (.iload_n 3, 1) := by decide +kernel
theorem dX19_tick_158 : decode cX19_tick 158 = .ok (.aaload, 1) := by decide +kernel
theorem dX19_tick_159 : decode cX19_tick 159 = .ok (.invokevirtual 850, 3) := by decide +kernel
theorem dX19_tick_162 : decode cX19_tick 162 = .ok (.iinc 3 1, 3) := by decide +kernel
theorem dX19_tick_165 : decode cX19_tick 165 = .ok (.goto (-20), 3) := by decide +kernel
theorem dX19_tick_168 : decode cX19_tick 168 = .ok (.iinc 1 1, 3) := by decide +kernel
theorem dX19_tick_171 : decode cX19_tick 171 = .ok (.goto (-155), 3) := by decide +kernel
theorem dX19_tick_174 : decode cX19_tick 174 = .ok (.return_, 1) := by decide +kernel
theorem dX19_isBox_0 : decode cX19_isBox 0 = .ok (.iload_n 1, 1) := by decide +kernel
theorem dX19_isBox_1 : decode cX19_isBox 1 = .ok (.ifCond .lt 15, 3) := by decide +kernel
theorem dX19_isBox_4 : decode cX19_isBox 4 = .ok (.iload_n 1, 1) := by decide +kernel
theorem dX19_isBox_5 : decode cX19_isBox 5 = .ok (.aload_n 0, 1) := by decide +kernel
theorem dX19_isBox_6 : decode cX19_isBox 6 = .ok (.getfield 831, 3) := by decide +kernel
theorem dX19_isBox_9 : decode cX19_isBox 9 = .ok (.if_icmp .ge 7, 3) := by decide +kernel
theorem dX19_isBox_12 : decode cX19_isBox 12 = .ok (.iconst 1, 1) := by decide +kernel
theorem dX19_isBox_13 : decode cX19_isBox 13 = .ok (.goto 4, 3) := by decide +kernel
theorem dX19_isBox_16 : decode cX19_isBox 16 = .ok (.iconst 0, 1) := by decide +kernel
theorem dX19_isBox_17 : decode cX19_isBox 17 = .ok (.ireturn, 1) := by decide +kernel
theorem dX19_isHost_0 : decode cX19_isHost 0 = .ok (.aload_n 0, 1) := by decide +kernel
theorem dX19_isHost_1 : decode cX19_isHost 1 = .ok (.iload_n 1, 1) := by decide +kernel
theorem dX19_isHost_2 : decode cX19_isHost 2 = .ok (.invokevirtual 854, 3) := by decide +kernel
theorem dX19_isHost_5 : decode cX19_isHost 5 = .ok (.ifCond .eq 19, 3) := by decide +kernel
theorem dX19_isHost_8 : decode cX19_isHost 8 = .ok (.aload_n 0, 1) := by decide +kernel
theorem dX19_isHost_9 : decode cX19_isHost 9 = .ok (.getfield 114, 3) := by decide +kernel
theorem dX19_isHost_12 : decode cX19_isHost 12 = .ok (.iload_n 1, 1) := by decide +kernel
theorem dX19_isHost_13 : decode cX19_isHost 13 = .ok (.aaload, 1) := by decide +kernel
theorem dX19_isHost_14 : decode cX19_isHost 14 = .ok (.getfield 298, 3) := by decide +kernel
theorem dX19_isHost_17 : decode cX19_isHost 17 = .ok (.ifCond .ne 7, 3) := by decide +kernel
theorem dX19_isHost_20 : decode cX19_isHost 20 = .ok (.iconst 1, 1) := by decide +kernel
theorem dX19_isHost_21 : decode cX19_isHost 21 = .ok (.goto 4, 3) := by decide +kernel
theorem dX19_isHost_24 : decode cX19_isHost 24 = .ok (.iconst 0, 1) := by decide +kernel
theorem dX19_isHost_25 : decode cX19_isHost 25 = .ok (.ireturn, 1) := by decide +kernel
theorem dX19_isRouter_0 : decode cX19_isRouter 0 = .ok (.aload_n 0, 1) := by decide +kernel
theorem dX19_isRouter_1 : decode cX19_isRouter 1 = .ok (.iload_n 1, 1) := by decide +kernel
theorem dX19_isRouter_2 : decode cX19_isRouter 2 = .ok (.invokevirtual 854, 3) := by decide +kernel
theorem dX19_isRouter_5 : decode cX19_isRouter 5 = .ok (.ifCond .eq 19, 3) := by decide +kernel
theorem dX19_isRouter_8 : decode cX19_isRouter 8 = .ok (.aload_n 0, 1) := by decide +kernel
theorem dX19_isRouter_9 : decode cX19_isRouter 9 = .ok (.getfield 114, 3) := by decide +kernel
theorem dX19_isRouter_12 : decode cX19_isRouter 12 = .ok (.iload_n 1, 1) := by decide +kernel
theorem dX19_isRouter_13 : decode cX19_isRouter 13 = .ok (.aaload, 1) := by decide +kernel
theorem dX19_isRouter_14 : decode cX19_isRouter 14 = .ok (.getfield 298, 3) := by decide +kernel
theorem dX19_isRouter_17 : decode cX19_isRouter 17 = .ok (.ifCond .eq 7, 3) := by decide +kernel
theorem dX19_isRouter_20 : decode cX19_isRouter 20 = .ok (.iconst 1, 1) := by decide +kernel
theorem dX19_isRouter_21 : decode cX19_isRouter 21 = .ok (.goto 4, 3) := by decide +kernel
theorem dX19_isRouter_24 : decode cX19_isRouter 24 = .ok (.iconst 0, 1) := by decide +kernel
theorem dX19_isRouter_25 : decode cX19_isRouter 25 = .ok (.ireturn, 1) := by decide +kernel
theorem dX19_isNet_0 : decode cX19_isNet 0 = .ok (.iload_n 1, 1) := by decide +kernel
theorem dX19_isNet_1 : decode cX19_isNet 1 = .ok (.ifCond .lt 15, 3) := by decide +kernel
theorem dX19_isNet_4 : decode cX19_isNet 4 = .ok (.iload_n 1, 1) := by decide +kernel
theorem dX19_isNet_5 : decode cX19_isNet 5 = .ok (.aload_n 0, 1) := by decide +kernel
theorem dX19_isNet_6 : decode cX19_isNet 6 = .ok (.getfield 270, 3) := by decide +kernel
theorem dX19_isNet_9 : decode cX19_isNet 9 = .ok (.if_icmp .ge 7, 3) := by decide +kernel
theorem dX19_isNet_12 : decode cX19_isNet 12 = .ok (.iconst 1, 1) := by decide +kernel
theorem dX19_isNet_13 : decode cX19_isNet 13 = .ok (.goto 4, 3) := by decide +kernel
theorem dX19_isNet_16 : decode cX19_isNet 16 = .ok (.iconst 0, 1) := by decide +kernel
theorem dX19_isNet_17 : decode cX19_isNet 17 = .ok (.ireturn, 1) := by decide +kernel
theorem dX19_isDoor_0 : decode cX19_isDoor 0 = .ok (.aload_n 0, 1) := by decide +kernel
theorem dX19_isDoor_1 : decode cX19_isDoor 1 = .ok (.iload_n 1, 1) := by decide +kernel
theorem dX19_isDoor_2 : decode cX19_isDoor 2 = .ok (.invokevirtual 857, 3) := by decide +kernel
theorem dX19_isDoor_5 : decode cX19_isDoor 5 = .ok (.ifCond .eq 17, 3) := by decide +kernel
theorem dX19_isDoor_8 : decode cX19_isDoor 8 = .ok (.iload_n 2, 1) := by decide +kernel
theorem dX19_isDoor_9 : decode cX19_isDoor 9 = .ok (.ifCond .lt 13, 3) := by decide +kernel
theorem dX19_isDoor_12 : decode cX19_isDoor 12 = .ok (.iload_n 2, 1) := by decide +kernel
theorem dX19_isDoor_13 : decode cX19_isDoor 13 = .ok (.bipush 6, 2) := by decide +kernel
theorem dX19_isDoor_15 : decode cX19_isDoor 15 = .ok (.if_icmp .ge 7, 3) := by decide +kernel
theorem dX19_isDoor_18 : decode cX19_isDoor 18 = .ok (.iconst 1, 1) := by decide +kernel
theorem dX19_isDoor_19 : decode cX19_isDoor 19 = .ok (.goto 4, 3) := by decide +kernel
theorem dX19_isDoor_22 : decode cX19_isDoor 22 = .ok (.iconst 0, 1) := by decide +kernel
theorem dX19_isDoor_23 : decode cX19_isDoor 23 = .ok (.ireturn, 1) := by decide +kernel
theorem dX19_fails_0 : decode cX19_fails 0 = .ok (.aload_n 0, 1) := by decide +kernel
theorem dX19_fails_1 : decode cX19_fails 1 = .ok (.iload_n 1, 1) := by decide +kernel
theorem dX19_fails_2 : decode cX19_fails 2 = .ok (.ifCond .eq 7, 3) := by decide +kernel
theorem dX19_fails_5 : decode cX19_fails 5 = .ok (.iconst 1, 1) := by decide +kernel
theorem dX19_fails_6 : decode cX19_fails 6 = .ok (.goto 12, 3) := by decide +kernel
theorem dX19_fails_9 : decode cX19_fails 9 = .ok (.iload_n 2, 1) := by decide +kernel
theorem dX19_fails_10 : decode cX19_fails 10 = .ok (.ifCond .eq 7, 3) := by decide +kernel
theorem dX19_fails_13 : decode cX19_fails 13 = .ok (.iconst 2, 1) := by decide +kernel
theorem dX19_fails_14 : decode cX19_fails 14 = .ok (.goto 4, 3) := by decide +kernel
theorem dX19_fails_17 : decode cX19_fails 17 = .ok (.iconst 0, 1) := by decide +kernel
theorem dX19_fails_18 : decode cX19_fails 18 = .ok (.putfield 140, 3) := by decide +kernel
theorem dX19_fails_21 : decode cX19_fails 21 = .ok (.aload_n 0, 1) := by decide +kernel
theorem dX19_fails_22 : decode cX19_fails 22 = .ok (.getfield 140, 3) := by decide +kernel
theorem dX19_fails_25 : decode cX19_fails 25 = .ok (.ifCond .le 7, 3) := by decide +kernel
theorem dX19_fails_28 : decode cX19_fails 28 = .ok (.iconst 1, 1) := by decide +kernel
theorem dX19_fails_29 : decode cX19_fails 29 = .ok (.goto 4, 3) := by decide +kernel
theorem dX19_fails_32 : decode cX19_fails 32 = .ok (.iconst 0, 1) := by decide +kernel
theorem dX19_fails_33 : decode cX19_fails 33 = .ok (.ireturn, 1) := by decide +kernel
theorem dX19_box_0 : decode cX19_box 0 = .ok (.aload_n 0, 1) := by decide +kernel
theorem dX19_box_1 : decode cX19_box 1 = .ok (.aload_n 0, 1) := by decide +kernel
theorem dX19_box_2 : decode cX19_box 2 = .ok (.getfield 831, 3) := by decide +kernel
theorem dX19_box_5 : decode cX19_box 5 = .ok (.bipush 16, 2) := by decide +kernel
theorem dX19_box_7 : decode cX19_box 7 = .ok (.if_icmp .ne 7, 3) := by decide +kernel
theorem dX19_box_10 : decode cX19_box 10 = .ok (.iconst 1, 1) := by decide +kernel
theorem dX19_box_11 : decode cX19_box 11 = .ok (.goto 4, 3) := by decide +kernel
theorem dX19_box_14 : decode cX19_box 14 = .ok (.iconst 0, 1) := by decide +kernel
theorem dX19_box_15 : decode cX19_box 15 = .ok (.putfield 140, 3) := by decide +kernel
theorem dX19_box_18 : decode cX19_box 18 = .ok (.aload_n 0, 1) := by decide +kernel
theorem dX19_box_19 : decode cX19_box 19 = .ok (.getfield 140, 3) := by decide +kernel
theorem dX19_box_22 : decode cX19_box 22 = .ok (.ifCond .le 5, 3) := by decide +kernel
theorem dX19_box_25 : decode cX19_box 25 = .ok (.iconst 0, 1) := by decide +kernel
theorem dX19_box_26 : decode cX19_box 26 = .ok (.ireturn, 1) := by decide +kernel
theorem dX19_box_27 : decode cX19_box 27 = .ok (.new 112, 3) := by decide +kernel
theorem dX19_box_30 : decode cX19_box 30 = .ok (.dup, 1) := by decide +kernel
theorem dX19_box_31 : decode cX19_box 31 = .ok (.invokespecial 860, 3) := by decide +kernel
theorem dX19_box_34 : decode cX19_box 34 = .ok (.astore_n 2, 1) := by decide +kernel
theorem dX19_box_35 : decode cX19_box 35 = .ok (.aload_n 2, 1) := by decide +kernel
theorem dX19_box_36 : decode cX19_box 36 = .ok (.aload_n 0, 1) := by decide +kernel
theorem dX19_box_37 : decode cX19_box 37 = .ok (.getfield 831, 3) := by decide +kernel
theorem dX19_box_40 : decode cX19_box 40 = .ok (.putfield 310, 3) := by decide +kernel
theorem dX19_box_43 : decode cX19_box 43 = .ok (.aload_n 2, 1) := by decide +kernel
theorem dX19_box_44 : decode cX19_box 44 = .ok (.iload_n 1, 1) := by decide +kernel
theorem dX19_box_45 : decode cX19_box 45 = .ok (.putfield 298, 3) := by decide +kernel
theorem dX19_box_48 : decode cX19_box 48 = .ok (.iconst 0, 1) := by decide +kernel
theorem dX19_box_49 : decode cX19_box 49 = .ok (.istore_n 3, 1) := by decide +kernel
theorem dX19_box_50 : decode cX19_box 50 = .ok (.iload_n 3, 1) := by decide +kernel
theorem dX19_box_51 : decode cX19_box 51 = .ok (.iconst 4, 1) := by decide +kernel
theorem dX19_box_52 : decode cX19_box 52 = .ok (.if_icmp .ge 22, 3) := by decide +kernel
theorem dX19_box_55 : decode cX19_box 55 = .ok (.aload_n 2, 1) := by decide +kernel
theorem dX19_box_56 : decode cX19_box 56 = .ok (.getfield 395, 3) := by decide +kernel
theorem dX19_box_59 : decode cX19_box 59 = .ok (.iload_n 3, 1) := by decide +kernel
theorem dX19_box_60 : decode cX19_box 60 = .ok (.new 400, 3) := by decide +kernel
theorem dX19_box_63 : decode cX19_box 63 = .ok (.dup, 1) := by decide +kernel
theorem dX19_box_64 : decode cX19_box 64 = .ok (.invokespecial 861, 3) := by decide +kernel
theorem dX19_box_67 : decode cX19_box 67 = .ok (.aastore, 1) := by decide +kernel
theorem dX19_box_68 : decode cX19_box 68 = .ok (.iinc 3 1, 3) := by decide +kernel
theorem dX19_box_71 : decode cX19_box 71 = .ok (.goto (-21), 3) := by decide +kernel
theorem dX19_box_74 : decode cX19_box 74 = .ok (.iconst 0, 1) := by decide +kernel
theorem dX19_box_75 : decode cX19_box 75 = .ok (.istore_n 3, 1) := by decide +kernel
theorem dX19_box_76 : decode cX19_box 76 = .ok (.iload_n 3, 1) := by decide +kernel
theorem dX19_box_77 : decode cX19_box 77 = .ok (.bipush 16, 2) := by decide +kernel
theorem dX19_box_79 : decode cX19_box 79 = .ok (.if_icmp .ge 33, 3) := by decide +kernel
theorem dX19_box_82 : decode cX19_box 82 = .ok (.aload_n 2, 1) := by decide +kernel
theorem dX19_box_83 : decode cX19_box 83 = .ok (.getfield 448, 3) := by decide +kernel
theorem dX19_box_86 : decode cX19_box 86 = .ok (.iload_n 3, 1) := by decide +kernel
theorem dX19_box_87 : decode cX19_box 87 = .ok (.iconst (-1), 1) := by decide +kernel
theorem dX19_box_88 : decode cX19_box 88 = .ok (.iastore, 1) := by decide +kernel
theorem dX19_box_89 : decode cX19_box 89 = .ok (.iload_n 1, 1) := by decide +kernel
theorem dX19_box_90 : decode cX19_box 90 = .ok (.ifCond .eq 16, 3) := by decide +kernel
theorem dX19_box_93 : decode cX19_box 93 = .ok (.aload_n 2, 1) := by decide +kernel
theorem dX19_box_94 : decode cX19_box 94 = .ok (.getfield 460, 3) := by decide +kernel
theorem dX19_box_97 : decode cX19_box 97 = .ok (.iload_n 3, 1) := by decide +kernel
theorem dX19_box_98 : decode cX19_box 98 = .ok (.new 453, 3) := by decide +kernel
theorem dX19_box_101 : decode cX19_box 101 = .ok (.dup, 1) := by decide +kernel
theorem dX19_box_102 : decode cX19_box 102 = .ok (.invokespecial 862, 3) := by decide +kernel
theorem dX19_box_105 : decode cX19_box 105 = .ok (.aastore, 1) := by decide +kernel
theorem dX19_box_106 : decode cX19_box 106 = .ok (.iinc 3 1, 3) := by decide +kernel
theorem dX19_box_109 : decode cX19_box 109 = .ok (.goto (-33), 3) := by decide +kernel
theorem dX19_box_112 : decode cX19_box 112 = .ok (.iconst 0, 1) := by decide +kernel
theorem dX19_box_113 : decode cX19_box 113 = .ok (.istore_n 3, 1) := by decide +kernel
theorem dX19_box_114 : decode cX19_box 114 = .ok (.iload_n 3, 1) := by decide +kernel
theorem dX19_box_115 : decode cX19_box 115 = .ok (.bipush 6, 2) := by decide +kernel
theorem dX19_box_117 : decode cX19_box 117 = .ok (.if_icmp .ge 42, 3) := by decide +kernel
theorem dX19_box_120 : decode cX19_box 120 = .ok (.iload_n 1, 1) := by decide +kernel
theorem dX19_box_121 : decode cX19_box 121 = .ok (.ifCond .ne 38, 3) := by decide +kernel
theorem dX19_box_124 : decode cX19_box 124 = .ok (.aload_n 2, 1) := by decide +kernel
theorem dX19_box_125 : decode cX19_box 125 = .ok (.getfield 340, 3) := by decide +kernel
theorem dX19_box_128 : decode cX19_box 128 = .ok (.iload_n 3, 1) := by decide +kernel
theorem dX19_box_129 : decode cX19_box 129 = .ok (.new 345, 3) := by decide +kernel
theorem dX19_box_132 : decode cX19_box 132 = .ok (.dup, 1) := by decide +kernel
theorem dX19_box_133 : decode cX19_box 133 = .ok (.invokespecial 863, 3) := by decide +kernel
theorem dX19_box_136 : decode cX19_box 136 = .ok (.aastore, 1) := by decide +kernel
theorem dX19_box_137 : decode cX19_box 137 = .ok (.aload_n 2, 1) := by decide +kernel
theorem dX19_box_138 : decode cX19_box 138 = .ok (.getfield 340, 3) := by decide +kernel
theorem dX19_box_141 : decode cX19_box 141 = .ok (.iload_n 3, 1) := by decide +kernel
theorem dX19_box_142 : decode cX19_box 142 = .ok (.aaload, 1) := by decide +kernel
theorem dX19_box_143 : decode cX19_box 143 = .ok (.new 354, 3) := by decide +kernel
theorem dX19_box_146 : decode cX19_box 146 = .ok (.dup, 1) := by decide +kernel
theorem dX19_box_147 : decode cX19_box 147 = .ok (.invokespecial 864, 3) := by decide +kernel
theorem dX19_box_150 : decode cX19_box 150 = .ok (.putfield 344, 3) := by decide +kernel
theorem dX19_box_153 : decode cX19_box 153 = .ok (.iinc 3 1, 3) := by decide +kernel
theorem dX19_box_156 : decode cX19_box 156 = .ok (.goto (-42), 3) := by decide +kernel
theorem dX19_box_159 : decode cX19_box 159 = .ok (.iconst 0, 1) := by decide +kernel
theorem dX19_box_160 : decode cX19_box 160 = .ok (.istore_n 3, 1) := by decide +kernel
theorem dX19_box_161 : decode cX19_box 161 = .ok (.iload_n 3, 1) := by decide +kernel
theorem dX19_box_162 : decode cX19_box 162 = .ok (.bipush 24, 2) := by decide +kernel
theorem dX19_box_164 : decode cX19_box 164 = .ok (.if_icmp .ge 30, 3) := by decide +kernel
theorem dX19_box_167 : decode cX19_box 167 = .ok (.aload_n 2, 1) := by decide +kernel
theorem dX19_box_168 : decode cX19_box 168 = .ok (.getfield 301, 3) := by decide +kernel
theorem dX19_box_171 : decode cX19_box 171 = .ok (.iload_n 3, 1) := by decide +kernel
theorem dX19_box_172 : decode cX19_box 172 = .ok (.iconst (-1), 1) := by decide +kernel
theorem dX19_box_173 : decode cX19_box 173 = .ok (.iastore, 1) := by decide +kernel
theorem dX19_box_174 : decode cX19_box 174 = .ok (.aload_n 2, 1) := by decide +kernel
theorem dX19_box_175 : decode cX19_box 175 = .ok (.getfield 307, 3) := by decide +kernel
theorem dX19_box_178 : decode cX19_box 178 = .ok (.iload_n 3, 1) := by decide +kernel
theorem dX19_box_179 : decode cX19_box 179 = .ok (.iconst (-1), 1) := by decide +kernel
theorem dX19_box_180 : decode cX19_box 180 = .ok (.iastore, 1) := by decide +kernel
theorem dX19_box_181 : decode cX19_box 181 = .ok (.aload_n 2, 1) := by decide +kernel
theorem dX19_box_182 : decode cX19_box 182 = .ok (.getfield 304, 3) := by decide +kernel
theorem dX19_box_185 : decode cX19_box 185 = .ok (.iload_n 3, 1) := by decide +kernel
theorem dX19_box_186 : decode cX19_box 186 = .ok (.iconst (-1), 1) := by decide +kernel
theorem dX19_box_187 : decode cX19_box 187 = .ok (.iastore, 1) := by decide +kernel
theorem dX19_box_188 : decode cX19_box 188 = .ok (.iinc 3 1, 3) := by decide +kernel
theorem dX19_box_191 : decode cX19_box 191 = .ok (.goto (-30), 3) := by decide +kernel
theorem dX19_box_194 : decode cX19_box 194 = .ok (.aload_n 0, 1) := by decide +kernel
theorem dX19_box_195 : decode cX19_box 195 = .ok (.getfield 114, 3) := by decide +kernel
theorem dX19_box_198 : decode cX19_box 198 = .ok (.aload_n 0, 1) := by decide +kernel
theorem dX19_box_199 : decode cX19_box 199 = .ok (.getfield 831, 3) := by decide +kernel
theorem dX19_box_202 : decode cX19_box 202 = .ok (.aload_n 2, 1) := by decide +kernel
theorem dX19_box_203 : decode cX19_box 203 = .ok (.aastore, 1) := by decide +kernel
theorem dX19_box_204 : decode cX19_box 204 = .ok (.aload_n 0, 1) := by decide +kernel
theorem dX19_box_205 : decode cX19_box 205 = .ok (.dup, 1) := by decide +kernel
theorem dX19_box_206 : decode cX19_box 206 = .ok (.getfield 831, 3) := by decide +kernel
theorem dX19_box_209 : decode cX19_box 209 = .ok (.iconst 1, 1) := by decide +kernel
theorem dX19_box_210 : decode cX19_box 210 = .ok (.iadd, 1) := by decide +kernel
theorem dX19_box_211 : decode cX19_box 211 = .ok (.putfield 831, 3) := by decide +kernel
theorem dX19_box_214 : decode cX19_box 214 = .ok (.aload_n 0, 1) := by decide +kernel
theorem dX19_box_215 : decode cX19_box 215 = .ok (.invokevirtual 168, 3) := by decide +kernel
theorem dX19_box_218 : decode cX19_box 218 = .ok (.aload_n 2, 1) := by decide +kernel
theorem dX19_box_219 : decode cX19_box 219 = .ok (.getfield 310, 3) := by decide +kernel
theorem dX19_box_222 : decode cX19_box 222 = .ok (.ireturn, 1) := by decide +kernel
theorem dX19_net_0 : decode cX19_net 0 = .ok (.aload_n 0, 1) := by decide +kernel
theorem dX19_net_1 : decode cX19_net 1 = .ok (.iload_n 1, 1) := by decide +kernel
theorem dX19_net_2 : decode cX19_net 2 = .ok (.bipush 100, 2) := by decide +kernel
theorem dX19_net_4 : decode cX19_net 4 = .ok (.if_icmp .lt 21, 3) := by decide +kernel
theorem dX19_net_7 : decode cX19_net 7 = .ok (.iload_n 1, 1) := by decide +kernel
theorem dX19_net_8 : decode cX19_net 8 = .ok (.sipush 1500, 3) := by decide +kernel
theorem dX19_net_11 : decode cX19_net 11 = .ok (.if_icmp .gt 14, 3) := by decide +kernel
theorem dX19_net_14 : decode cX19_net 14 = .ok (.iload_n 2, 1) := by decide +kernel
theorem dX19_net_15 : decode cX19_net 15 = .ok (.iconst 1, 1) := by decide +kernel
theorem dX19_net_16 : decode cX19_net 16 = .ok (.if_icmp .lt 9, 3) := by decide +kernel
theorem dX19_net_19 : decode cX19_net 19 = .ok (.iload_n 2, 1) := by decide +kernel
theorem dX19_net_20 : decode cX19_net 20 = .ok (.bipush 50, 2) := by decide +kernel
theorem dX19_net_22 : decode cX19_net 22 = .ok (.if_icmp .le 7, 3) := by decide +kernel
theorem dX19_net_25 : decode cX19_net 25 = .ok (.iconst 1, 1) := by decide +kernel
theorem dX19_net_26 : decode cX19_net 26 = .ok (.goto 4, 3) := by decide +kernel
theorem dX19_net_29 : decode cX19_net 29 = .ok (.iconst 0, 1) := by decide +kernel
theorem dX19_net_30 : decode cX19_net 30 = .ok (.aload_n 0, 1) := by decide +kernel
theorem dX19_net_31 : decode cX19_net 31 = .ok (.getfield 270, 3) := by decide +kernel
theorem dX19_net_34 : decode cX19_net 34 = .ok (.bipush 24, 2) := by decide +kernel
theorem dX19_net_36 : decode cX19_net 36 = .ok (.if_icmp .ne 7, 3) := by decide +kernel
theorem dX19_net_39 : decode cX19_net 39 = .ok (.iconst 1, 1) := by decide +kernel
theorem dX19_net_40 : decode cX19_net 40 = .ok (.goto 4, 3) := by decide +kernel
theorem dX19_net_43 : decode cX19_net 43 = .ok (.iconst 0, 1) := by decide +kernel
theorem dX19_net_44 : decode cX19_net 44 = .ok (.invokevirtual 865, 3) := by decide +kernel
theorem dX19_net_47 : decode cX19_net 47 = .ok (.ifCond .eq 5, 3) := by decide +kernel
theorem dX19_net_50 : decode cX19_net 50 = .ok (.iconst 0, 1) := by decide +kernel
theorem dX19_net_51 : decode cX19_net 51 = .ok (.ireturn, 1) := by decide +kernel
theorem dX19_net_52 : decode cX19_net 52 = .ok (.new 118, 3) := by decide +kernel
theorem dX19_net_55 : decode cX19_net 55 = .ok (.dup, 1) := by decide +kernel
theorem dX19_net_56 : decode cX19_net 56 = .ok (.invokespecial 869, 3) := by decide +kernel
theorem dX19_net_59 : decode cX19_net 59 = .ok (.astore_n 3, 1) := by decide +kernel
theorem dX19_net_60 : decode cX19_net 60 = .ok (.aload_n 3, 1) := by decide +kernel
theorem dX19_net_61 : decode cX19_net 61 = .ok (.aload_n 0, 1) := by decide +kernel
theorem dX19_net_62 : decode cX19_net 62 = .ok (.getfield 270, 3) := by decide +kernel
theorem dX19_net_65 : decode cX19_net 65 = .ok (.putfield 181, 3) := by decide +kernel
theorem dX19_net_68 : decode cX19_net 68 = .ok (.aload_n 3, 1) := by decide +kernel
theorem dX19_net_69 : decode cX19_net 69 = .ok (.iload_n 1, 1) := by decide +kernel
theorem dX19_net_70 : decode cX19_net 70 = .ok (.putfield 191, 3) := by decide +kernel
theorem dX19_net_73 : decode cX19_net 73 = .ok (.aload_n 3, 1) := by decide +kernel
theorem dX19_net_74 : decode cX19_net 74 = .ok (.iload_n 2, 1) := by decide +kernel
theorem dX19_net_75 : decode cX19_net 75 = .ok (.putfield 174, 3) := by decide +kernel
theorem dX19_net_78 : decode cX19_net 78 = .ok (.aload_n 0, 1) := by decide +kernel
theorem dX19_net_79 : decode cX19_net 79 = .ok (.getfield 120, 3) := by decide +kernel
theorem dX19_net_82 : decode cX19_net 82 = .ok (.aload_n 0, 1) := by decide +kernel
theorem dX19_net_83 : decode cX19_net 83 = .ok (.getfield 270, 3) := by decide +kernel
theorem dX19_net_86 : decode cX19_net 86 = .ok (.aload_n 3, 1) := by decide +kernel
theorem dX19_net_87 : decode cX19_net 87 = .ok (.aastore, 1) := by decide +kernel
theorem dX19_net_88 : decode cX19_net 88 = .ok (.aload_n 0, 1) := by decide +kernel
theorem dX19_net_89 : decode cX19_net 89 = .ok (.dup, 1) := by decide +kernel
theorem dX19_net_90 : decode cX19_net 90 = .ok (.getfield 270, 3) := by decide +kernel
theorem dX19_net_93 : decode cX19_net 93 = .ok (.iconst 1, 1) := by decide +kernel
theorem dX19_net_94 : decode cX19_net 94 = .ok (.iadd, 1) := by decide +kernel
theorem dX19_net_95 : decode cX19_net 95 = .ok (.putfield 270, 3) := by decide +kernel
theorem dX19_net_98 : decode cX19_net 98 = .ok (.aload_n 0, 1) := by decide +kernel
theorem dX19_net_99 : decode cX19_net 99 = .ok (.invokevirtual 168, 3) := by decide +kernel
theorem dX19_net_102 : decode cX19_net 102 = .ok (.aload_n 3, 1) := by decide +kernel
theorem dX19_net_103 : decode cX19_net 103 = .ok (.getfield 181, 3) := by decide +kernel
theorem dX19_net_106 : decode cX19_net 106 = .ok (.ireturn, 1) := by decide +kernel
theorem dX19_join_0 : decode cX19_join 0 = .ok (.aload_n 0, 1) := by decide +kernel
theorem dX19_join_1 : decode cX19_join 1 = .ok (.aload_n 0, 1) := by decide +kernel
theorem dX19_join_2 : decode cX19_join 2 = .ok (.iload_n 1, 1) := by decide +kernel
theorem dX19_join_3 : decode cX19_join 3 = .ok (.invokevirtual 854, 3) := by decide +kernel
theorem dX19_join_6 : decode cX19_join 6 = .ok (.ifCond .eq 11, 3) := by decide +kernel
theorem dX19_join_9 : decode cX19_join 9 = .ok (.aload_n 0, 1) := by decide +kernel
theorem dX19_join_10 : decode cX19_join 10 = .ok (.iload_n 2, 1) := by decide +kernel
theorem dX19_join_11 : decode cX19_join 11 = .ok (.invokevirtual 870, 3) := by decide +kernel
theorem dX19_join_14 : decode cX19_join 14 = .ok (.ifCond .ne 7, 3) := by decide +kernel
theorem dX19_join_17 : decode cX19_join 17 = .ok (.iconst 1, 1) := by decide +kernel
theorem dX19_join_18 : decode cX19_join 18 = .ok (.goto 4, 3) := by decide +kernel
theorem dX19_join_21 : decode cX19_join 21 = .ok (.iconst 0, 1) := by decide +kernel
theorem dX19_join_22 : decode cX19_join 22 = .ok (.iconst 0, 1) := by decide +kernel
theorem dX19_join_23 : decode cX19_join 23 = .ok (.invokevirtual 865, 3) := by decide +kernel
theorem dX19_join_26 : decode cX19_join 26 = .ok (.ifCond .eq 5, 3) := by decide +kernel
theorem dX19_join_29 : decode cX19_join 29 = .ok (.iconst 0, 1) := by decide +kernel
theorem dX19_join_30 : decode cX19_join 30 = .ok (.ireturn, 1) := by decide +kernel
theorem dX19_join_31 : decode cX19_join 31 = .ok (.aload_n 0, 1) := by decide +kernel
theorem dX19_join_32 : decode cX19_join 32 = .ok (.getfield 114, 3) := by decide +kernel
theorem dX19_join_35 : decode cX19_join 35 = .ok (.iload_n 1, 1) := by decide +kernel
theorem dX19_join_36 : decode cX19_join 36 = .ok (.aaload, 1) := by decide +kernel
theorem dX19_join_37 : decode cX19_join 37 = .ok (.astore_n 3, 1) := by decide +kernel
theorem dX19_join_38 : decode cX19_join 38 = .ok (.aload_n 0, 1) := by decide +kernel
theorem dX19_join_39 : decode cX19_join 39 = .ok (.getfield 120, 3) := by decide +kernel
theorem dX19_join_42 : decode cX19_join 42 = .ok (.iload_n 2, 1) := by decide +kernel
theorem dX19_join_43 : decode cX19_join 43 = .ok (.aaload, 1) := by decide +kernel
theorem dX19_join_44 : decode cX19_join 44 = .ok (.astore 4, 2) := by decide +kernel
theorem dX19_join_46 : decode cX19_join 46 = .ok (.aload_n 0, 1) := by decide +kernel
theorem dX19_join_47 : decode cX19_join 47 = .ok (.iconst 0, 1) := by decide +kernel
theorem dX19_join_48 : decode cX19_join 48 = .ok (.aload_n 3, 1) := by decide +kernel
theorem dX19_join_49 : decode cX19_join 49 = .ok (.getfield 273, 3) := by decide +kernel
theorem dX19_join_52 : decode cX19_join 52 = .ok (.aload_n 3, 1) := by decide +kernel
theorem dX19_join_53 : decode cX19_join 53 = .ok (.getfield 298, 3) := by decide +kernel
theorem dX19_join_56 : decode cX19_join 56 = .ok (.ifCond .eq 8, 3) := by decide +kernel
theorem dX19_join_59 : decode cX19_join 59 = .ok (.bipush 6, 2) := by decide +kernel
theorem dX19_join_61 : decode cX19_join 61 = .ok (.goto 4, 3) := by decide +kernel
theorem dX19_join_64 : decode cX19_join 64 = .ok (.iconst 1, 1) := by decide +kernel
theorem dX19_join_65 : decode cX19_join 65 = .ok (.if_icmp .eq 23, 3) := by decide +kernel
theorem dX19_join_68 : decode cX19_join 68 = .ok (.aload_n 3, 1) := by decide +kernel
theorem dX19_join_69 : decode cX19_join 69 = .ok (.aload 4, 2) := by decide +kernel
theorem dX19_join_71 : decode cX19_join 71 = .ok (.invokestatic 311, 3) := by decide +kernel
theorem dX19_join_74 : decode cX19_join 74 = .ok (.iconst (-1), 1) := by decide +kernel
theorem dX19_join_75 : decode cX19_join 75 = .ok (.if_icmp .ne 13, 3) := by decide +kernel
theorem dX19_join_78 : decode cX19_join 78 = .ok (.aload 4, 2) := by decide +kernel
theorem dX19_join_80 : decode cX19_join 80 = .ok (.getfield 292, 3) := by decide +kernel
theorem dX19_join_83 : decode cX19_join 83 = .ok (.bipush 8, 2) := by decide +kernel
theorem dX19_join_85 : decode cX19_join 85 = .ok (.if_icmp .ne 7, 3) := by decide +kernel
theorem dX19_join_88 : decode cX19_join 88 = .ok (.iconst 1, 1) := by decide +kernel
theorem dX19_join_89 : decode cX19_join 89 = .ok (.goto 4, 3) := by decide +kernel
theorem dX19_join_92 : decode cX19_join 92 = .ok (.iconst 0, 1) := by decide +kernel
theorem dX19_join_93 : decode cX19_join 93 = .ok (.invokevirtual 865, 3) := by decide +kernel
theorem dX19_join_96 : decode cX19_join 96 = .ok (.ifCond .eq 5, 3) := by decide +kernel
theorem dX19_join_99 : decode cX19_join 99 = .ok (.iconst 0, 1) := by decide +kernel
theorem dX19_join_100 : decode cX19_join 100 = .ok (.ireturn, 1) := by decide +kernel
theorem dX19_join_101 : decode cX19_join 101 = .ok (.new 150, 3) := by decide +kernel
theorem dX19_join_104 : decode cX19_join 104 = .ok (.dup, 1) := by decide +kernel
theorem dX19_join_105 : decode cX19_join 105 = .ok (.invokespecial 873, 3) := by decide +kernel
theorem dX19_join_108 : decode cX19_join 108 = .ok (.astore 5, 2) := by decide +kernel
theorem dX19_join_110 : decode cX19_join 110 = .ok (.aload 5, 2) := by decide +kernel
theorem dX19_join_112 : decode cX19_join 112 = .ok (.aload_n 3, 1) := by decide +kernel
theorem dX19_join_113 : decode cX19_join 113 = .ok (.putfield 197, 3) := by decide +kernel
theorem dX19_join_116 : decode cX19_join 116 = .ok (.aload 5, 2) := by decide +kernel
theorem dX19_join_118 : decode cX19_join 118 = .ok (.aload_n 3, 1) := by decide +kernel
theorem dX19_join_119 : decode cX19_join 119 = .ok (.getfield 273, 3) := by decide +kernel
theorem dX19_join_122 : decode cX19_join 122 = .ok (.putfield 380, 3) := by decide +kernel
theorem dX19_join_125 : decode cX19_join 125 = .ok (.aload 5, 2) := by decide +kernel
theorem dX19_join_127 : decode cX19_join 127 = .ok (.aload 4, 2) := by decide +kernel
theorem dX19_join_129 : decode cX19_join 129 = .ok (.putfield 149, 3) := by decide +kernel
theorem dX19_join_132 : decode cX19_join 132 = .ok (.aload 5, 2) := by decide +kernel
theorem dX19_join_134 : decode cX19_join 134 = .ok (.aload 4, 2) := by decide +kernel
theorem dX19_join_136 : decode cX19_join 136 = .ok (.getfield 292, 3) := by decide +kernel
theorem dX19_join_139 : decode cX19_join 139 = .ok (.putfield 184, 3) := by decide +kernel
theorem dX19_join_142 : decode cX19_join 142 = .ok (.iconst 0, 1) := by decide +kernel
theorem dX19_join_143 : decode cX19_join 143 = .ok (.istore 6, 2) := by decide +kernel
theorem dX19_join_145 : decode cX19_join 145 = .ok (.iload 6, 2) := by decide +kernel
theorem dX19_join_147 : decode cX19_join 147 = .ok (.bipush 8, 2) := by decide +kernel
theorem dX19_join_149 : decode cX19_join 149 = .ok (.if_icmp .ge 20, 3) := by decide +kernel
theorem dX19_join_152 : decode cX19_join 152 = .ok (.aload 5, 2) := by decide +kernel
theorem dX19_join_154 : decode cX19_join 154 = .ok (.getfield 207, 3) := by decide +kernel
theorem dX19_join_157 : decode cX19_join 157 = .ok (.iload 6, 2) := by decide +kernel
theorem dX19_join_159 : decode cX19_join 159 = .ok (.ldc_w 874, 3) := by decide +kernel
theorem dX19_join_162 : decode cX19_join 162 = .ok (.iastore, 1) := by decide +kernel
theorem dX19_join_163 : decode cX19_join 163 = .ok (.iinc 6 1, 3) := by decide +kernel
theorem dX19_join_166 : decode cX19_join 166 = .ok (.goto (-21), 3) := by decide +kernel
theorem dX19_join_169 : decode cX19_join 169 = .ok (.aload_n 3, 1) := by decide +kernel
theorem dX19_join_170 : decode cX19_join 170 = .ok (.getfield 276, 3) := by decide +kernel
theorem dX19_join_173 : decode cX19_join 173 = .ok (.aload_n 3, 1) := by decide +kernel
theorem dX19_join_174 : decode cX19_join 174 = .ok (.getfield 273, 3) := by decide +kernel
theorem dX19_join_177 : decode cX19_join 177 = .ok (.aload 5, 2) := by decide +kernel
theorem dX19_join_179 : decode cX19_join 179 = .ok (.aastore, 1) := by decide +kernel
theorem dX19_join_180 : decode cX19_join 180 = .ok (.aload_n 3, 1) := by decide +kernel
theorem dX19_join_181 : decode cX19_join 181 = .ok (.dup, 1) := by decide +kernel
theorem dX19_join_182 : decode cX19_join 182 = .ok (.getfield 273, 3) := by decide +kernel
theorem dX19_join_185 : decode cX19_join 185 = .ok (.iconst 1, 1) := by decide +kernel
theorem dX19_join_186 : decode cX19_join 186 = .ok (.iadd, 1) := by decide +kernel
theorem dX19_join_187 : decode cX19_join 187 = .ok (.putfield 273, 3) := by decide +kernel
theorem dX19_join_190 : decode cX19_join 190 = .ok (.aload 4, 2) := by decide +kernel
theorem dX19_join_192 : decode cX19_join 192 = .ok (.getfield 295, 3) := by decide +kernel
theorem dX19_join_195 : decode cX19_join 195 = .ok (.aload 4, 2) := by decide +kernel
theorem dX19_join_197 : decode cX19_join 197 = .ok (.getfield 292, 3) := by decide +kernel
theorem dX19_join_200 : decode cX19_join 200 = .ok (.aload 5, 2) := by decide +kernel
theorem dX19_join_202 : decode cX19_join 202 = .ok (.aastore, 1) := by decide +kernel
theorem dX19_join_203 : decode cX19_join 203 = .ok (.aload 4, 2) := by decide +kernel
theorem dX19_join_205 : decode cX19_join 205 = .ok (.dup, 1) := by decide +kernel
theorem dX19_join_206 : decode cX19_join 206 = .ok (.getfield 292, 3) := by decide +kernel
theorem dX19_join_209 : decode cX19_join 209 = .ok (.iconst 1, 1) := by decide +kernel
theorem dX19_join_210 : decode cX19_join 210 = .ok (.iadd, 1) := by decide +kernel
theorem dX19_join_211 : decode cX19_join 211 = .ok (.putfield 292, 3) := by decide +kernel
theorem dX19_join_214 : decode cX19_join 214 = .ok (.aload_n 3, 1) := by decide +kernel
theorem dX19_join_215 : decode cX19_join 215 = .ok (.iconst 1, 1) := by decide +kernel
theorem dX19_join_216 : decode cX19_join 216 = .ok (.putfield 489, 3) := by decide +kernel
theorem dX19_join_219 : decode cX19_join 219 = .ok (.aload_n 3, 1) := by decide +kernel
theorem dX19_join_220 : decode cX19_join 220 = .ok (.iconst 1, 1) := by decide +kernel
theorem dX19_join_221 : decode cX19_join 221 = .ok (.putfield 486, 3) := by decide +kernel
theorem dX19_join_224 : decode cX19_join 224 = .ok (.aload_n 0, 1) := by decide +kernel
theorem dX19_join_225 : decode cX19_join 225 = .ok (.invokevirtual 168, 3) := by decide +kernel
theorem dX19_join_228 : decode cX19_join 228 = .ok (.aload 5, 2) := by decide +kernel
theorem dX19_join_230 : decode cX19_join 230 = .ok (.invokevirtual 280, 3) := by decide +kernel
theorem dX19_join_233 : decode cX19_join 233 = .ok (.ireturn, 1) := by decide +kernel
theorem dX19_portOn_0 : decode cX19_portOn 0 = .ok (.aload_n 0, 1) := by decide +kernel
theorem dX19_portOn_1 : decode cX19_portOn 1 = .ok (.getfield 114, 3) := by decide +kernel
theorem dX19_portOn_4 : decode cX19_portOn 4 = .ok (.iload_n 1, 1) := by decide +kernel
theorem dX19_portOn_5 : decode cX19_portOn 5 = .ok (.aaload, 1) := by decide +kernel
theorem dX19_portOn_6 : decode cX19_portOn 6 = .ok (.astore_n 3, 1) := by decide +kernel
theorem dX19_portOn_7 : decode cX19_portOn 7 = .ok (.iconst 0, 1) := by decide +kernel
theorem dX19_portOn_8 : decode cX19_portOn 8 = .ok (.istore 4, 2) := by decide +kernel
theorem dX19_portOn_10 : decode cX19_portOn 10 = .ok (.iload 4, 2) := by decide +kernel
theorem dX19_portOn_12 : decode cX19_portOn 12 = .ok (.aload_n 3, 1) := by decide +kernel
theorem dX19_portOn_13 : decode cX19_portOn 13 = .ok (.getfield 273, 3) := by decide +kernel
theorem dX19_portOn_16 : decode cX19_portOn 16 = .ok (.if_icmp .ge 34, 3) := by decide +kernel
theorem dX19_portOn_19 : decode cX19_portOn 19 = .ok (.aload_n 3, 1) := by decide +kernel
theorem dX19_portOn_20 : decode cX19_portOn 20 = .ok (.getfield 276, 3) := by decide +kernel
theorem dX19_portOn_23 : decode cX19_portOn 23 = .ok (.iload 4, 2) := by decide +kernel
theorem dX19_portOn_25 : decode cX19_portOn 25 = .ok (.aaload, 1) := by decide +kernel
theorem dX19_portOn_26 : decode cX19_portOn 26 = .ok (.getfield 149, 3) := by decide +kernel
theorem dX19_portOn_29 : decode cX19_portOn 29 = .ok (.getfield 181, 3) := by decide +kernel
theorem dX19_portOn_32 : decode cX19_portOn 32 = .ok (.iload_n 2, 1) := by decide +kernel
theorem dX19_portOn_33 : decode cX19_portOn 33 = .ok (.if_icmp .ne 11, 3) := by decide +kernel
theorem dX19_portOn_36 : decode cX19_portOn 36 = .ok (.aload_n 3, 1) := by decide +kernel
theorem dX19_portOn_37 : decode cX19_portOn 37 = .ok (.getfield 276, 3) := by decide +kernel
theorem dX19_portOn_40 : decode cX19_portOn 40 = .ok (.iload 4, 2) := by decide +kernel
theorem dX19_portOn_42 : decode cX19_portOn 42 = .ok (.aaload, 1) := by decide +kernel
theorem dX19_portOn_43 : decode cX19_portOn 43 = .ok (.areturn, 1) := by decide +kernel
theorem dX19_portOn_44 : decode cX19_portOn 44 = .ok (.iinc 4 1, 3) := by decide +kernel
theorem dX19_portOn_47 : decode cX19_portOn 47 = .ok (.goto (-37), 3) := by decide +kernel
theorem dX19_portOn_50 : decode cX19_portOn 50 = .ok (.aconst_null, 1) := by decide +kernel
theorem dX19_portOn_51 : decode cX19_portOn 51 = .ok (.areturn, 1) := by decide +kernel
theorem dX19_cost_0 : decode cX19_cost 0 = .ok (.aload_n 0, 1) := by decide +kernel
theorem dX19_cost_1 : decode cX19_cost 1 = .ok (.aload_n 0, 1) := by decide +kernel
theorem dX19_cost_2 : decode cX19_cost 2 = .ok (.iload_n 1, 1) := by decide +kernel
theorem dX19_cost_3 : decode cX19_cost 3 = .ok (.invokevirtual 875, 3) := by decide +kernel
theorem dX19_cost_6 : decode cX19_cost 6 = .ok (.ifCond .eq 32, 3) := by decide +kernel
theorem dX19_cost_9 : decode cX19_cost 9 = .ok (.aload_n 0, 1) := by decide +kernel
theorem dX19_cost_10 : decode cX19_cost 10 = .ok (.iload_n 2, 1) := by decide +kernel
theorem dX19_cost_11 : decode cX19_cost 11 = .ok (.invokevirtual 870, 3) := by decide +kernel
theorem dX19_cost_14 : decode cX19_cost 14 = .ok (.ifCond .eq 24, 3) := by decide +kernel
theorem dX19_cost_17 : decode cX19_cost 17 = .ok (.aload_n 0, 1) := by decide +kernel
theorem dX19_cost_18 : decode cX19_cost 18 = .ok (.iload_n 1, 1) := by decide +kernel
theorem dX19_cost_19 : decode cX19_cost 19 = .ok (.iload_n 2, 1) := by decide +kernel
theorem dX19_cost_20 : decode cX19_cost 20 = .ok (.invokevirtual 877, 3) := by decide +kernel
theorem dX19_cost_23 : decode cX19_cost 23 = .ok (.ifnull 15, 3) := by decide +kernel
theorem dX19_cost_26 : decode cX19_cost 26 = .ok (.iload_n 3, 1) := by decide +kernel
theorem dX19_cost_27 : decode cX19_cost 27 = .ok (.iconst 1, 1) := by decide +kernel
theorem dX19_cost_28 : decode cX19_cost 28 = .ok (.if_icmp .lt 10, 3) := by decide +kernel
theorem dX19_cost_31 : decode cX19_cost 31 = .ok (.iload_n 3, 1) := by decide +kernel
theorem dX19_cost_32 : decode cX19_cost 32 = .ok (.sipush 1000, 3) := by decide +kernel
theorem dX19_cost_35 : decode cX19_cost 35 = .ok (.if_icmp .le 7, 3) := by decide +kernel
theorem dX19_cost_38 : decode cX19_cost 38 = .ok (.iconst 1, 1) := by decide +kernel
theorem dX19_cost_39 : decode cX19_cost 39 = .ok (.goto 4, 3) := by decide +kernel
theorem dX19_cost_42 : decode cX19_cost 42 = .ok (.iconst 0, 1) := by decide +kernel
theorem dX19_cost_43 : decode cX19_cost 43 = .ok (.iconst 0, 1) := by decide +kernel
theorem dX19_cost_44 : decode cX19_cost 44 = .ok (.invokevirtual 865, 3) := by decide +kernel
theorem dX19_cost_47 : decode cX19_cost 47 = .ok (.ifCond .eq 5, 3) := by decide +kernel
theorem dX19_cost_50 : decode cX19_cost 50 = .ok (.iconst 0, 1) := by decide +kernel
theorem dX19_cost_51 : decode cX19_cost 51 = .ok (.ireturn, 1) := by decide +kernel
theorem dX19_cost_52 : decode cX19_cost 52 = .ok (.aload_n 0, 1) := by decide +kernel
theorem dX19_cost_53 : decode cX19_cost 53 = .ok (.iload_n 1, 1) := by decide +kernel
theorem dX19_cost_54 : decode cX19_cost 54 = .ok (.iload_n 2, 1) := by decide +kernel
theorem dX19_cost_55 : decode cX19_cost 55 = .ok (.invokevirtual 877, 3) := by decide +kernel
theorem dX19_cost_58 : decode cX19_cost 58 = .ok (.astore 4, 2) := by decide +kernel
theorem dX19_cost_60 : decode cX19_cost 60 = .ok (.aload 4, 2) := by decide +kernel
theorem dX19_cost_62 : decode cX19_cost 62 = .ok (.getfield 520, 3) := by decide +kernel
theorem dX19_cost_65 : decode cX19_cost 65 = .ok (.istore 5, 2) := by decide +kernel
theorem dX19_cost_67 : decode cX19_cost 67 = .ok (.aload 4, 2) := by decide +kernel
theorem dX19_cost_69 : decode cX19_cost 69 = .ok (.iload_n 3, 1) := by decide +kernel
theorem dX19_cost_70 : decode cX19_cost 70 = .ok (.putfield 520, 3) := by decide +kernel
theorem dX19_cost_73 : decode cX19_cost 73 = .ok (.aload 4, 2) := by decide +kernel
theorem dX19_cost_75 : decode cX19_cost 75 = .ok (.getfield 197, 3) := by decide +kernel
theorem dX19_cost_78 : decode cX19_cost 78 = .ok (.iconst 1, 1) := by decide +kernel
theorem dX19_cost_79 : decode cX19_cost 79 = .ok (.putfield 489, 3) := by decide +kernel
theorem dX19_cost_82 : decode cX19_cost 82 = .ok (.aload 4, 2) := by decide +kernel
theorem dX19_cost_84 : decode cX19_cost 84 = .ok (.getfield 197, 3) := by decide +kernel
theorem dX19_cost_87 : decode cX19_cost 87 = .ok (.iconst 1, 1) := by decide +kernel
theorem dX19_cost_88 : decode cX19_cost 88 = .ok (.putfield 486, 3) := by decide +kernel
theorem dX19_cost_91 : decode cX19_cost 91 = .ok (.iload 5, 2) := by decide +kernel
theorem dX19_cost_93 : decode cX19_cost 93 = .ok (.iload_n 3, 1) := by decide +kernel
theorem dX19_cost_94 : decode cX19_cost 94 = .ok (.if_icmp .eq 7, 3) := by decide +kernel
theorem dX19_cost_97 : decode cX19_cost 97 = .ok (.aload_n 0, 1) := by decide +kernel
theorem dX19_cost_98 : decode cX19_cost 98 = .ok (.invokevirtual 168, 3) := by decide +kernel
theorem dX19_cost_101 : decode cX19_cost 101 = .ok (.iload 5, 2) := by decide +kernel
theorem dX19_cost_103 : decode cX19_cost 103 = .ok (.ireturn, 1) := by decide +kernel
theorem dX19_link_0 : decode cX19_link 0 = .ok (.aload_n 0, 1) := by decide +kernel
theorem dX19_link_1 : decode cX19_link 1 = .ok (.aload_n 0, 1) := by decide +kernel
theorem dX19_link_2 : decode cX19_link 2 = .ok (.iload_n 1, 1) := by decide +kernel
theorem dX19_link_3 : decode cX19_link 3 = .ok (.invokevirtual 870, 3) := by decide +kernel
theorem dX19_link_6 : decode cX19_link 6 = .ok (.ifCond .ne 7, 3) := by decide +kernel
theorem dX19_link_9 : decode cX19_link 9 = .ok (.iconst 1, 1) := by decide +kernel
theorem dX19_link_10 : decode cX19_link 10 = .ok (.goto 4, 3) := by decide +kernel
theorem dX19_link_13 : decode cX19_link 13 = .ok (.iconst 0, 1) := by decide +kernel
theorem dX19_link_14 : decode cX19_link 14 = .ok (.iconst 0, 1) := by decide +kernel
theorem dX19_link_15 : decode cX19_link 15 = .ok (.invokevirtual 865, 3) := by decide +kernel
theorem dX19_link_18 : decode cX19_link 18 = .ok (.ifCond .eq 5, 3) := by decide +kernel
theorem dX19_link_21 : decode cX19_link 21 = .ok (.iconst 0, 1) := by decide +kernel
theorem dX19_link_22 : decode cX19_link 22 = .ok (.ireturn, 1) := by decide +kernel
theorem dX19_link_23 : decode cX19_link 23 = .ok (.aload_n 0, 1) := by decide +kernel
theorem dX19_link_24 : decode cX19_link 24 = .ok (.getfield 120, 3) := by decide +kernel
theorem dX19_link_27 : decode cX19_link 27 = .ok (.iload_n 1, 1) := by decide +kernel
theorem dX19_link_28 : decode cX19_link 28 = .ok (.aaload, 1) := by decide +kernel
theorem dX19_link_29 : decode cX19_link 29 = .ok (.astore_n 3, 1) := by decide +kernel
theorem dX19_link_30 : decode cX19_link 30 = .ok (.aload_n 3, 1) := by decide +kernel
theorem dX19_link_31 : decode cX19_link 31 = .ok (.getfield 158, 3) := by decide +kernel
theorem dX19_link_34 : decode cX19_link 34 = .ok (.iload_n 2, 1) := by decide +kernel
theorem dX19_link_35 : decode cX19_link 35 = .ok (.if_icmp .eq 7, 3) := by decide +kernel
theorem dX19_link_38 : decode cX19_link 38 = .ok (.iconst 1, 1) := by decide +kernel
theorem dX19_link_39 : decode cX19_link 39 = .ok (.goto 4, 3) := by decide +kernel
theorem dX19_link_42 : decode cX19_link 42 = .ok (.iconst 0, 1) := by decide +kernel
theorem dX19_link_43 : decode cX19_link 43 = .ok (.istore 4, 2) := by decide +kernel
theorem dX19_link_45 : decode cX19_link 45 = .ok (.aload_n 3, 1) := by decide +kernel
theorem dX19_link_46 : decode cX19_link 46 = .ok (.iload_n 2, 1) := by decide +kernel
theorem dX19_link_47 : decode cX19_link 47 = .ok (.putfield 158, 3) := by decide +kernel
theorem dX19_link_50 : decode cX19_link 50 = .ok (.iconst 0, 1) := by decide +kernel
theorem dX19_link_51 : decode cX19_link 51 = .ok (.istore 5, 2) := by decide +kernel
theorem dX19_link_53 : decode cX19_link 53 = .ok (.iload 5, 2) := by decide +kernel
theorem dX19_link_55 : decode cX19_link 55 = .ok (.aload_n 0, 1) := by decide +kernel
theorem dX19_link_56 : decode cX19_link 56 = .ok (.getfield 171, 3) := by decide +kernel
theorem dX19_link_59 : decode cX19_link 59 = .ok (.if_icmp .ge 62, 3) := by decide +kernel
theorem dX19_link_62 : decode cX19_link 62 = .ok (.iload_n 2, 1) := by decide +kernel
theorem dX19_link_63 : decode cX19_link 63 = .ok (.ifCond .ne 58, 3) := by decide +kernel
theorem dX19_link_66 : decode cX19_link 66 = .ok (.aload_n 0, 1) := by decide +kernel
theorem dX19_link_67 : decode cX19_link 67 = .ok (.getfield 124, 3) := by decide +kernel
theorem dX19_link_70 : decode cX19_link 70 = .ok (.bipush 7, 2) := by decide +kernel
theorem dX19_link_72 : decode cX19_link 72 = .ok (.iload 5, 2) := by decide +kernel
theorem dX19_link_74 : decode cX19_link 74 = .ok (.imul, 1) := by decide +kernel
theorem dX19_link_75 : decode cX19_link 75 = .ok (.iaload, 1) := by decide +kernel
theorem dX19_link_76 : decode cX19_link 76 = .ok (.iload_n 1, 1) := by decide +kernel
theorem dX19_link_77 : decode cX19_link 77 = .ok (.if_icmp .ne 38, 3) := by decide +kernel
theorem dX19_link_80 : decode cX19_link 80 = .ok (.aload_n 0, 1) := by decide +kernel
theorem dX19_link_81 : decode cX19_link 81 = .ok (.getfield 124, 3) := by decide +kernel
theorem dX19_link_84 : decode cX19_link 84 = .ok (.bipush 7, 2) := by decide +kernel
theorem dX19_link_86 : decode cX19_link 86 = .ok (.iload 5, 2) := by decide +kernel
theorem dX19_link_88 : decode cX19_link 88 = .ok (.imul, 1) := by decide +kernel
theorem dX19_link_89 : decode cX19_link 89 = .ok (.iconst 5, 1) := by decide +kernel
theorem dX19_link_90 : decode cX19_link 90 = .ok (.iadd, 1) := by decide +kernel
theorem dX19_link_91 : decode cX19_link 91 = .ok (.iaload, 1) := by decide +kernel
theorem dX19_link_92 : decode cX19_link 92 = .ok (.istore 6, 2) := by decide +kernel
theorem dX19_link_94 : decode cX19_link 94 = .ok (.aload_n 0, 1) := by decide +kernel
theorem dX19_link_95 : decode cX19_link 95 = .ok (.iload 5, 2) := by decide +kernel
theorem dX19_link_97 : decode cX19_link 97 = .ok (.invokevirtual 371, 3) := by decide +kernel
theorem dX19_link_100 : decode cX19_link 100 = .ok (.iload 6, 2) := by decide +kernel
theorem dX19_link_102 : decode cX19_link 102 = .ok (.iconst (-1), 1) := by decide +kernel
theorem dX19_link_103 : decode cX19_link 103 = .ok (.if_icmp .eq 9, 3) := by decide +kernel
theorem dX19_link_106 : decode cX19_link 106 = .ok (.aload_n 0, 1) := by decide +kernel
theorem dX19_link_107 : decode cX19_link 107 = .ok (.iload 6, 2) := by decide +kernel
theorem dX19_link_109 : decode cX19_link 109 = .ok (.invokevirtual 204, 3) := by decide +kernel
theorem dX19_link_112 : decode cX19_link 112 = .ok (.goto (-59), 3) := by decide +kernel
theorem dX19_link_115 : decode cX19_link 115 = .ok (.iinc 5 1, 3) := by decide +kernel
theorem dX19_link_118 : decode cX19_link 118 = .ok (.goto (-65), 3) := by decide +kernel
theorem dX19_link_121 : decode cX19_link 121 = .ok (.iload 4, 2) := by decide +kernel
theorem dX19_link_123 : decode cX19_link 123 = .ok (.ifCond .eq 7, 3) := by decide +kernel
theorem dX19_link_126 : decode cX19_link 126 = .ok (.aload_n 0, 1) := by decide +kernel
theorem dX19_link_127 : decode cX19_link 127 = .ok (.invokevirtual 168, 3) := by decide +kernel
theorem dX19_link_130 : decode cX19_link 130 = .ok (.iload 4, 2) := by decide +kernel
theorem dX19_link_132 : decode cX19_link 132 = .ok (.ireturn, 1) := by decide +kernel
theorem dX19_fates_0 : decode cX19_fates 0 = .ok (.aload_n 0, 1) := by decide +kernel
theorem dX19_fates_1 : decode cX19_fates 1 = .ok (.aload_n 0, 1) := by decide +kernel
theorem dX19_fates_2 : decode cX19_fates 2 = .ok (.iload_n 1, 1) := by decide +kernel
theorem dX19_fates_3 : decode cX19_fates 3 = .ok (.invokevirtual 870, 3) := by decide +kernel
theorem dX19_fates_6 : decode cX19_fates 6 = .ok (.ifCond .eq 16, 3) := by decide +kernel
theorem dX19_fates_9 : decode cX19_fates 9 = .ok (.iload 4, 2) := by decide +kernel
theorem dX19_fates_11 : decode cX19_fates 11 = .ok (.iconst 1, 1) := by decide +kernel
theorem dX19_fates_12 : decode cX19_fates 12 = .ok (.if_icmp .lt 10, 3) := by decide +kernel
theorem dX19_fates_15 : decode cX19_fates 15 = .ok (.iload 4, 2) := by decide +kernel
theorem dX19_fates_17 : decode cX19_fates 17 = .ok (.bipush 32, 2) := by decide +kernel
theorem dX19_fates_19 : decode cX19_fates 19 = .ok (.if_icmp .le 7, 3) := by decide +kernel
theorem dX19_fates_22 : decode cX19_fates 22 = .ok (.iconst 1, 1) := by decide +kernel
theorem dX19_fates_23 : decode cX19_fates 23 = .ok (.goto 4, 3) := by decide +kernel
theorem dX19_fates_26 : decode cX19_fates 26 = .ok (.iconst 0, 1) := by decide +kernel
theorem dX19_fates_27 : decode cX19_fates 27 = .ok (.aload_n 0, 1) := by decide +kernel
theorem dX19_fates_28 : decode cX19_fates 28 = .ok (.iload_n 1, 1) := by decide +kernel
theorem dX19_fates_29 : decode cX19_fates 29 = .ok (.invokevirtual 870, 3) := by decide +kernel
theorem dX19_fates_32 : decode cX19_fates 32 = .ok (.ifCond .eq 24, 3) := by decide +kernel
theorem dX19_fates_35 : decode cX19_fates 35 = .ok (.aload_n 0, 1) := by decide +kernel
theorem dX19_fates_36 : decode cX19_fates 36 = .ok (.getfield 120, 3) := by decide +kernel
theorem dX19_fates_39 : decode cX19_fates 39 = .ok (.iload_n 1, 1) := by decide +kernel
theorem dX19_fates_40 : decode cX19_fates 40 = .ok (.aaload, 1) := by decide +kernel
theorem dX19_fates_41 : decode cX19_fates 41 = .ok (.getfield 162, 3) := by decide +kernel
theorem dX19_fates_44 : decode cX19_fates 44 = .ok (.iload 4, 2) := by decide +kernel
theorem dX19_fates_46 : decode cX19_fates 46 = .ok (.iadd, 1) := by decide +kernel
theorem dX19_fates_47 : decode cX19_fates 47 = .ok (.bipush 64, 2) := by decide +kernel
theorem dX19_fates_49 : decode cX19_fates 49 = .ok (.if_icmp .le 7, 3) := by decide +kernel
theorem dX19_fates_52 : decode cX19_fates 52 = .ok (.iconst 1, 1) := by decide +kernel
theorem dX19_fates_53 : decode cX19_fates 53 = .ok (.goto 4, 3) := by decide +kernel
theorem dX19_fates_56 : decode cX19_fates 56 = .ok (.iconst 0, 1) := by decide +kernel
theorem dX19_fates_57 : decode cX19_fates 57 = .ok (.invokevirtual 865, 3) := by decide +kernel
theorem dX19_fates_60 : decode cX19_fates 60 = .ok (.ifCond .eq 5, 3) := by decide +kernel
theorem dX19_fates_63 : decode cX19_fates 63 = .ok (.iconst 0, 1) := by decide +kernel
theorem dX19_fates_64 : decode cX19_fates 64 = .ok (.ireturn, 1) := by decide +kernel
theorem dX19_fates_65 : decode cX19_fates 65 = .ok (.aload_n 0, 1) := by decide +kernel
theorem dX19_fates_66 : decode cX19_fates 66 = .ok (.getfield 120, 3) := by decide +kernel
theorem dX19_fates_69 : decode cX19_fates 69 = .ok (.iload_n 1, 1) := by decide +kernel
theorem dX19_fates_70 : decode cX19_fates 70 = .ok (.aaload, 1) := by decide +kernel
theorem dX19_fates_71 : decode cX19_fates 71 = .ok (.astore 5, 2) := by decide +kernel
theorem dX19_fates_73 : decode cX19_fates 73 = .ok (.iconst 0, 1) := by decide +kernel
theorem dX19_fates_74 : decode cX19_fates 74 = .ok (.istore 6, 2) := by decide +kernel
theorem dX19_fates_76 : decode cX19_fates 76 = .ok (.iload 6, 2) := by decide +kernel
theorem dX19_fates_78 : decode cX19_fates 78 = .ok (.iload 4, 2) := by decide +kernel
theorem dX19_fates_80 : decode cX19_fates 80 = .ok (.if_icmp .ge 42, 3) := by decide +kernel
theorem dX19_fates_83 : decode cX19_fates 83 = .ok (.aload 5, 2) := by decide +kernel
theorem dX19_fates_85 : decode cX19_fates 85 = .ok (.getfield 165, 3) := by decide +kernel
theorem dX19_fates_88 : decode cX19_fates 88 = .ok (.aload 5, 2) := by decide +kernel
theorem dX19_fates_90 : decode cX19_fates 90 = .ok (.getfield 162, 3) := by decide +kernel
theorem dX19_fates_93 : decode cX19_fates 93 = .ok (.lload_n 2, 1) := by decide +kernel
theorem dX19_fates_94 : decode cX19_fates 94 = .ok (.iconst 2, 1) := by decide +kernel
theorem dX19_fates_95 : decode cX19_fates 95 = .ok (.iload 6, 2) := by decide +kernel
theorem dX19_fates_97 : decode cX19_fates 97 = .ok (.imul, 1) := by decide +kernel
theorem dX19_fates_98 : decode cX19_fates 98 = .ok (.lshr, 1) := by decide +kernel
theorem dX19_fates_99 : decode cX19_fates 99 = .ok (.ldc2_w 881, 3) := by decide +kernel
theorem dX19_fates_102 : decode cX19_fates 102 = .ok (.land, 1) := by decide +kernel
theorem dX19_fates_103 : decode cX19_fates 103 = .ok (.l2i, 1) := by decide +kernel
theorem dX19_fates_104 : decode cX19_fates 104 = .ok (.iastore, 1) := by decide +kernel
theorem dX19_fates_105 : decode cX19_fates 105 = .ok (.aload 5, 2) := by decide +kernel
theorem dX19_fates_107 : decode cX19_fates 107 = .ok (.dup, 1) := by decide +kernel
theorem dX19_fates_108 : decode cX19_fates 108 = .ok (.getfield 162, 3) := by decide +kernel
theorem dX19_fates_111 : decode cX19_fates 111 = .ok (.iconst 1, 1) := by decide +kernel
theorem dX19_fates_112 : decode cX19_fates 112 = .ok (.iadd, 1) := by decide +kernel
theorem dX19_fates_113 : decode cX19_fates 113 = .ok (.putfield 162, 3) := by decide +kernel
theorem dX19_fates_116 : decode cX19_fates 116 = .ok (.iinc 6 1, 3) := by decide +kernel
theorem dX19_fates_119 : decode cX19_fates 119 = .ok (.goto (-43), 3) := by decide +kernel
theorem dX19_fates_122 : decode cX19_fates 122 = .ok (.aload 5, 2) := by decide +kernel
theorem dX19_fates_124 : decode cX19_fates 124 = .ok (.getfield 162, 3) := by decide +kernel
theorem dX19_fates_127 : decode cX19_fates 127 = .ok (.ireturn, 1) := by decide +kernel
theorem dX19_run_0 : decode cX19_run 0 = .ok (.aload_n 0, 1) := by decide +kernel
theorem dX19_run_1 : decode cX19_run 1 = .ok (.iload_n 1, 1) := by decide +kernel
theorem dX19_run_2 : decode cX19_run 2 = .ok (.iconst 1, 1) := by decide +kernel
theorem dX19_run_3 : decode cX19_run 3 = .ok (.if_icmp .lt 10, 3) := by decide +kernel
theorem dX19_run_6 : decode cX19_run 6 = .ok (.iload_n 1, 1) := by decide +kernel
theorem dX19_run_7 : decode cX19_run 7 = .ok (.sipush 1000, 3) := by decide +kernel
theorem dX19_run_10 : decode cX19_run 10 = .ok (.if_icmp .le 7, 3) := by decide +kernel
theorem dX19_run_13 : decode cX19_run 13 = .ok (.iconst 1, 1) := by decide +kernel
theorem dX19_run_14 : decode cX19_run 14 = .ok (.goto 4, 3) := by decide +kernel
theorem dX19_run_17 : decode cX19_run 17 = .ok (.iconst 0, 1) := by decide +kernel
theorem dX19_run_18 : decode cX19_run 18 = .ok (.aload_n 0, 1) := by decide +kernel
theorem dX19_run_19 : decode cX19_run 19 = .ok (.getfield 143, 3) := by decide +kernel
theorem dX19_run_22 : decode cX19_run 22 = .ok (.iload_n 1, 1) := by decide +kernel
theorem dX19_run_23 : decode cX19_run 23 = .ok (.iadd, 1) := by decide +kernel
theorem dX19_run_24 : decode cX19_run 24 = .ok (.ldc_w 883, 3) := by decide +kernel
theorem dX19_run_27 : decode cX19_run 27 = .ok (.if_icmp .le 7, 3) := by decide +kernel
theorem dX19_run_30 : decode cX19_run 30 = .ok (.iconst 1, 1) := by decide +kernel
theorem dX19_run_31 : decode cX19_run 31 = .ok (.goto 4, 3) := by decide +kernel
theorem dX19_run_34 : decode cX19_run 34 = .ok (.iconst 0, 1) := by decide +kernel
theorem dX19_run_35 : decode cX19_run 35 = .ok (.invokevirtual 865, 3) := by decide +kernel
theorem dX19_run_38 : decode cX19_run 38 = .ok (.ifCond .eq 5, 3) := by decide +kernel
theorem dX19_run_41 : decode cX19_run 41 = .ok (.iconst 0, 1) := by decide +kernel
theorem dX19_run_42 : decode cX19_run 42 = .ok (.ireturn, 1) := by decide +kernel
theorem dX19_run_43 : decode cX19_run 43 = .ok (.iconst 0, 1) := by decide +kernel
theorem dX19_run_44 : decode cX19_run 44 = .ok (.istore_n 2, 1) := by decide +kernel
theorem dX19_run_45 : decode cX19_run 45 = .ok (.iload_n 2, 1) := by decide +kernel
theorem dX19_run_46 : decode cX19_run 46 = .ok (.iload_n 1, 1) := by decide +kernel
theorem dX19_run_47 : decode cX19_run 47 = .ok (.if_icmp .ge 13, 3) := by decide +kernel
theorem dX19_run_50 : decode cX19_run 50 = .ok (.aload_n 0, 1) := by decide +kernel
theorem dX19_run_51 : decode cX19_run 51 = .ok (.invokevirtual 884, 3) := by decide +kernel
theorem dX19_run_54 : decode cX19_run 54 = .ok (.iinc 2 1, 3) := by decide +kernel
theorem dX19_run_57 : decode cX19_run 57 = .ok (.goto (-12), 3) := by decide +kernel
theorem dX19_run_60 : decode cX19_run 60 = .ok (.aload_n 0, 1) := by decide +kernel
theorem dX19_run_61 : decode cX19_run 61 = .ok (.getfield 143, 3) := by decide +kernel
theorem dX19_run_64 : decode cX19_run 64 = .ok (.ireturn, 1) := by decide +kernel
theorem dX19_listen_0 : decode cX19_listen 0 = .ok (.aload_n 0, 1) := by decide +kernel
theorem dX19_listen_1 : decode cX19_listen 1 = .ok (.aload_n 0, 1) := by decide +kernel
theorem dX19_listen_2 : decode cX19_listen 2 = .ok (.iload_n 1, 1) := by decide +kernel
theorem dX19_listen_3 : decode cX19_listen 3 = .ok (.invokevirtual 857, 3) := by decide +kernel
theorem dX19_listen_6 : decode cX19_listen 6 = .ok (.ifCond .eq 25, 3) := by decide +kernel
theorem dX19_listen_9 : decode cX19_listen 9 = .ok (.iload_n 2, 1) := by decide +kernel
theorem dX19_listen_10 : decode cX19_listen 10 = .ok (.iconst 1, 1) := by decide +kernel
theorem dX19_listen_11 : decode cX19_listen 11 = .ok (.if_icmp .lt 20, 3) := by decide +kernel
theorem dX19_listen_14 : decode cX19_listen 14 = .ok (.iload_n 2, 1) := by decide +kernel
theorem dX19_listen_15 : decode cX19_listen 15 = .ok (.ldc_w 887, 3) := by decide +kernel
theorem dX19_listen_18 : decode cX19_listen 18 = .ok (.if_icmp .gt 13, 3) := by decide +kernel
theorem dX19_listen_21 : decode cX19_listen 21 = .ok (.iload_n 3, 1) := by decide +kernel
theorem dX19_listen_22 : decode cX19_listen 22 = .ok (.iconst 1, 1) := by decide +kernel
theorem dX19_listen_23 : decode cX19_listen 23 = .ok (.if_icmp .lt 8, 3) := by decide +kernel
theorem dX19_listen_26 : decode cX19_listen 26 = .ok (.iload_n 3, 1) := by decide +kernel
theorem dX19_listen_27 : decode cX19_listen 27 = .ok (.iconst 5, 1) := by decide +kernel
theorem dX19_listen_28 : decode cX19_listen 28 = .ok (.if_icmp .le 7, 3) := by decide +kernel
theorem dX19_listen_31 : decode cX19_listen 31 = .ok (.iconst 1, 1) := by decide +kernel
theorem dX19_listen_32 : decode cX19_listen 32 = .ok (.goto 4, 3) := by decide +kernel
theorem dX19_listen_35 : decode cX19_listen 35 = .ok (.iconst 0, 1) := by decide +kernel
theorem dX19_listen_36 : decode cX19_listen 36 = .ok (.iconst 0, 1) := by decide +kernel
theorem dX19_listen_37 : decode cX19_listen 37 = .ok (.invokevirtual 865, 3) := by decide +kernel
theorem dX19_listen_40 : decode cX19_listen 40 = .ok (.ifCond .eq 5, 3) := by decide +kernel
theorem dX19_listen_43 : decode cX19_listen 43 = .ok (.iconst 0, 1) := by decide +kernel
theorem dX19_listen_44 : decode cX19_listen 44 = .ok (.ireturn, 1) := by decide +kernel
theorem dX19_listen_45 : decode cX19_listen 45 = .ok (.aload_n 0, 1) := by decide +kernel
theorem dX19_listen_46 : decode cX19_listen 46 = .ok (.getfield 114, 3) := by decide +kernel
theorem dX19_listen_49 : decode cX19_listen 49 = .ok (.iload_n 1, 1) := by decide +kernel
theorem dX19_listen_50 : decode cX19_listen 50 = .ok (.aaload, 1) := by decide +kernel
theorem dX19_listen_51 : decode cX19_listen 51 = .ok (.astore 4, 2) := by decide +kernel
theorem dX19_listen_53 : decode cX19_listen 53 = .ok (.iconst 0, 1) := by decide +kernel
theorem dX19_listen_54 : decode cX19_listen 54 = .ok (.istore 5, 2) := by decide +kernel
theorem dX19_listen_56 : decode cX19_listen 56 = .ok (.iconst 0, 1) := by decide +kernel
theorem dX19_listen_57 : decode cX19_listen 57 = .ok (.istore 6, 2) := by decide +kernel
theorem dX19_listen_59 : decode cX19_listen 59 = .ok (.iload 6, 2) := by decide +kernel
theorem dX19_listen_61 : decode cX19_listen 61 = .ok (.bipush 6, 2) := by decide +kernel
theorem dX19_listen_63 : decode cX19_listen 63 = .ok (.if_icmp .ge 50, 3) := by decide +kernel
theorem dX19_listen_66 : decode cX19_listen 66 = .ok (.iload 5, 2) := by decide +kernel
theorem dX19_listen_68 : decode cX19_listen 68 = .ok (.ifCond .ne 32, 3) := by decide +kernel
theorem dX19_listen_71 : decode cX19_listen 71 = .ok (.aload 4, 2) := by decide +kernel
theorem dX19_listen_73 : decode cX19_listen 73 = .ok (.getfield 340, 3) := by decide +kernel
theorem dX19_listen_76 : decode cX19_listen 76 = .ok (.iload 6, 2) := by decide +kernel
theorem dX19_listen_78 : decode cX19_listen 78 = .ok (.aaload, 1) := by decide +kernel
theorem dX19_listen_79 : decode cX19_listen 79 = .ok (.getfield 747, 3) := by decide +kernel
theorem dX19_listen_82 : decode cX19_listen 82 = .ok (.ifCond .eq 22, 3) := by decide +kernel
theorem dX19_listen_85 : decode cX19_listen 85 = .ok (.aload 4, 2) := by decide +kernel
theorem dX19_listen_87 : decode cX19_listen 87 = .ok (.getfield 340, 3) := by decide +kernel
theorem dX19_listen_90 : decode cX19_listen 90 = .ok (.iload 6, 2) := by decide +kernel
theorem dX19_listen_92 : decode cX19_listen 92 = .ok (.aaload, 1) := by decide +kernel
theorem dX19_listen_93 : decode cX19_listen 93 = .ok (.getfield 783, 3) := by decide +kernel
theorem dX19_listen_96 : decode cX19_listen 96 = .ok (.iload_n 2, 1) := by decide +kernel
theorem dX19_listen_97 : decode cX19_listen 97 = .ok (.if_icmp .ne 7, 3) := by decide +kernel
theorem dX19_listen_100 : decode cX19_listen 100 = .ok (.iconst 1, 1) := by decide +kernel
theorem dX19_listen_101 : decode cX19_listen 101 = .ok (.goto 4, 3) := by decide +kernel
theorem dX19_listen_104 : decode cX19_listen 104 = .ok (.iconst 0, 1) := by decide +kernel
theorem dX19_listen_105 : decode cX19_listen 105 = .ok (.istore 5, 2) := by decide +kernel
theorem dX19_listen_107 : decode cX19_listen 107 = .ok (.iinc 6 1, 3) := by decide +kernel
theorem dX19_listen_110 : decode cX19_listen 110 = .ok (.goto (-51), 3) := by decide +kernel
theorem dX19_listen_113 : decode cX19_listen 113 = .ok (.aload 4, 2) := by decide +kernel
theorem dX19_listen_115 : decode cX19_listen 115 = .ok (.invokestatic 791, 3) := by decide +kernel
theorem dX19_listen_118 : decode cX19_listen 118 = .ok (.istore 6, 2) := by decide +kernel
theorem dX19_listen_120 : decode cX19_listen 120 = .ok (.aload_n 0, 1) := by decide +kernel
theorem dX19_listen_121 : decode cX19_listen 121 = .ok (.iconst 0, 1) := by decide +kernel
theorem dX19_listen_122 : decode cX19_listen 122 = .ok (.iload 6, 2) := by decide +kernel
theorem dX19_listen_124 : decode cX19_listen 124 = .ok (.iconst (-1), 1) := by decide +kernel
theorem dX19_listen_125 : decode cX19_listen 125 = .ok (.if_icmp .eq 8, 3) := by decide +kernel
theorem dX19_listen_128 : decode cX19_listen 128 = .ok (.iload 5, 2) := by decide +kernel
theorem dX19_listen_130 : decode cX19_listen 130 = .ok (.ifCond .eq 7, 3) := by decide +kernel
theorem dX19_listen_133 : decode cX19_listen 133 = .ok (.iconst 1, 1) := by decide +kernel
theorem dX19_listen_134 : decode cX19_listen 134 = .ok (.goto 4, 3) := by decide +kernel
theorem dX19_listen_137 : decode cX19_listen 137 = .ok (.iconst 0, 1) := by decide +kernel
theorem dX19_listen_138 : decode cX19_listen 138 = .ok (.invokevirtual 865, 3) := by decide +kernel
theorem dX19_listen_141 : decode cX19_listen 141 = .ok (.ifCond .eq 5, 3) := by decide +kernel
theorem dX19_listen_144 : decode cX19_listen 144 = .ok (.iconst 0, 1) := by decide +kernel
theorem dX19_listen_145 : decode cX19_listen 145 = .ok (.ireturn, 1) := by decide +kernel
theorem dX19_listen_146 : decode cX19_listen 146 = .ok (.aload 4, 2) := by decide +kernel
theorem dX19_listen_148 : decode cX19_listen 148 = .ok (.getfield 340, 3) := by decide +kernel
theorem dX19_listen_151 : decode cX19_listen 151 = .ok (.iload 6, 2) := by decide +kernel
theorem dX19_listen_153 : decode cX19_listen 153 = .ok (.aaload, 1) := by decide +kernel
theorem dX19_listen_154 : decode cX19_listen 154 = .ok (.iconst 1, 1) := by decide +kernel
theorem dX19_listen_155 : decode cX19_listen 155 = .ok (.putfield 747, 3) := by decide +kernel
theorem dX19_listen_158 : decode cX19_listen 158 = .ok (.aload 4, 2) := by decide +kernel
theorem dX19_listen_160 : decode cX19_listen 160 = .ok (.getfield 340, 3) := by decide +kernel
theorem dX19_listen_163 : decode cX19_listen 163 = .ok (.iload 6, 2) := by decide +kernel
theorem dX19_listen_165 : decode cX19_listen 165 = .ok (.aaload, 1) := by decide +kernel
theorem dX19_listen_166 : decode cX19_listen 166 = .ok (.iload_n 2, 1) := by decide +kernel
theorem dX19_listen_167 : decode cX19_listen 167 = .ok (.putfield 783, 3) := by decide +kernel
theorem dX19_listen_170 : decode cX19_listen 170 = .ok (.aload 4, 2) := by decide +kernel
theorem dX19_listen_172 : decode cX19_listen 172 = .ok (.getfield 340, 3) := by decide +kernel
theorem dX19_listen_175 : decode cX19_listen 175 = .ok (.iload 6, 2) := by decide +kernel
theorem dX19_listen_177 : decode cX19_listen 177 = .ok (.aaload, 1) := by decide +kernel
theorem dX19_listen_178 : decode cX19_listen 178 = .ok (.iload_n 3, 1) := by decide +kernel
theorem dX19_listen_179 : decode cX19_listen 179 = .ok (.putfield 794, 3) := by decide +kernel
theorem dX19_listen_182 : decode cX19_listen 182 = .ok (.aload_n 0, 1) := by decide +kernel
theorem dX19_listen_183 : decode cX19_listen 183 = .ok (.invokevirtual 168, 3) := by decide +kernel
theorem dX19_listen_186 : decode cX19_listen 186 = .ok (.iload 6, 2) := by decide +kernel
theorem dX19_listen_188 : decode cX19_listen 188 = .ok (.ireturn, 1) := by decide +kernel
theorem dX19_open_0 : decode cX19_open 0 = .ok (.aload_n 0, 1) := by decide +kernel
theorem dX19_open_1 : decode cX19_open 1 = .ok (.aload_n 0, 1) := by decide +kernel
theorem dX19_open_2 : decode cX19_open 2 = .ok (.iload_n 1, 1) := by decide +kernel
theorem dX19_open_3 : decode cX19_open 3 = .ok (.invokevirtual 857, 3) := by decide +kernel
theorem dX19_open_6 : decode cX19_open 6 = .ok (.ifCond .eq 29, 3) := by decide +kernel
theorem dX19_open_9 : decode cX19_open 9 = .ok (.iload_n 3, 1) := by decide +kernel
theorem dX19_open_10 : decode cX19_open 10 = .ok (.iconst 1, 1) := by decide +kernel
theorem dX19_open_11 : decode cX19_open 11 = .ok (.if_icmp .lt 24, 3) := by decide +kernel
theorem dX19_open_14 : decode cX19_open 14 = .ok (.iload_n 3, 1) := by decide +kernel
theorem dX19_open_15 : decode cX19_open 15 = .ok (.ldc_w 269, 3) := by decide +kernel
theorem dX19_open_18 : decode cX19_open 18 = .ok (.if_icmp .gt 17, 3) := by decide +kernel
theorem dX19_open_21 : decode cX19_open 21 = .ok (.aload_n 0, 1) := by decide +kernel
theorem dX19_open_22 : decode cX19_open 22 = .ok (.aload_n 0, 1) := by decide +kernel
theorem dX19_open_23 : decode cX19_open 23 = .ok (.getfield 114, 3) := by decide +kernel
theorem dX19_open_26 : decode cX19_open 26 = .ok (.iload_n 1, 1) := by decide +kernel
theorem dX19_open_27 : decode cX19_open 27 = .ok (.aaload, 1) := by decide +kernel
theorem dX19_open_28 : decode cX19_open 28 = .ok (.iload_n 2, 1) := by decide +kernel
theorem dX19_open_29 : decode cX19_open 29 = .ok (.invokevirtual 318, 3) := by decide +kernel
theorem dX19_open_32 : decode cX19_open 32 = .ok (.ifCond .eq 7, 3) := by decide +kernel
theorem dX19_open_35 : decode cX19_open 35 = .ok (.iconst 1, 1) := by decide +kernel
theorem dX19_open_36 : decode cX19_open 36 = .ok (.goto 4, 3) := by decide +kernel
theorem dX19_open_39 : decode cX19_open 39 = .ok (.iconst 0, 1) := by decide +kernel
theorem dX19_open_40 : decode cX19_open 40 = .ok (.iconst 0, 1) := by decide +kernel
theorem dX19_open_41 : decode cX19_open 41 = .ok (.invokevirtual 865, 3) := by decide +kernel
theorem dX19_open_44 : decode cX19_open 44 = .ok (.ifCond .eq 5, 3) := by decide +kernel
theorem dX19_open_47 : decode cX19_open 47 = .ok (.iconst 0, 1) := by decide +kernel
theorem dX19_open_48 : decode cX19_open 48 = .ok (.ireturn, 1) := by decide +kernel
theorem dX19_open_49 : decode cX19_open 49 = .ok (.aload_n 0, 1) := by decide +kernel
theorem dX19_open_50 : decode cX19_open 50 = .ok (.getfield 114, 3) := by decide +kernel
theorem dX19_open_53 : decode cX19_open 53 = .ok (.iload_n 1, 1) := by decide +kernel
theorem dX19_open_54 : decode cX19_open 54 = .ok (.aaload, 1) := by decide +kernel
theorem dX19_open_55 : decode cX19_open 55 = .ok (.astore 4, 2) := by decide +kernel
theorem dX19_open_57 : decode cX19_open 57 = .ok (.aload 4, 2) := by decide +kernel
theorem dX19_open_59 : decode cX19_open 59 = .ok (.invokestatic 791, 3) := by decide +kernel
theorem dX19_open_62 : decode cX19_open 62 = .ok (.istore 5, 2) := by decide +kernel
theorem dX19_open_64 : decode cX19_open 64 = .ok (.aload_n 0, 1) := by decide +kernel
theorem dX19_open_65 : decode cX19_open 65 = .ok (.iconst 0, 1) := by decide +kernel
theorem dX19_open_66 : decode cX19_open 66 = .ok (.iload 5, 2) := by decide +kernel
theorem dX19_open_68 : decode cX19_open 68 = .ok (.iconst (-1), 1) := by decide +kernel
theorem dX19_open_69 : decode cX19_open 69 = .ok (.if_icmp .eq 22, 3) := by decide +kernel
theorem dX19_open_72 : decode cX19_open 72 = .ok (.aload 4, 2) := by decide +kernel
theorem dX19_open_74 : decode cX19_open 74 = .ok (.getfield 273, 3) := by decide +kernel
theorem dX19_open_77 : decode cX19_open 77 = .ok (.ifCond .eq 14, 3) := by decide +kernel
theorem dX19_open_80 : decode cX19_open 80 = .ok (.aload 4, 2) := by decide +kernel
theorem dX19_open_82 : decode cX19_open 82 = .ok (.getfield 888, 3) := by decide +kernel
theorem dX19_open_85 : decode cX19_open 85 = .ok (.sipush 15535, 3) := by decide +kernel
theorem dX19_open_88 : decode cX19_open 88 = .ok (.if_icmp .le 7, 3) := by decide +kernel
theorem dX19_open_91 : decode cX19_open 91 = .ok (.iconst 1, 1) := by decide +kernel
theorem dX19_open_92 : decode cX19_open 92 = .ok (.goto 4, 3) := by decide +kernel
theorem dX19_open_95 : decode cX19_open 95 = .ok (.iconst 0, 1) := by decide +kernel
theorem dX19_open_96 : decode cX19_open 96 = .ok (.invokevirtual 865, 3) := by decide +kernel
theorem dX19_open_99 : decode cX19_open 99 = .ok (.ifCond .eq 5, 3) := by decide +kernel
theorem dX19_open_102 : decode cX19_open 102 = .ok (.iconst 0, 1) := by decide +kernel
theorem dX19_open_103 : decode cX19_open 103 = .ok (.ireturn, 1) := by decide +kernel
theorem dX19_open_104 : decode cX19_open 104 = .ok (.aload_n 0, 1) := by decide +kernel
theorem dX19_open_105 : decode cX19_open 105 = .ok (.aload 4, 2) := by decide +kernel
theorem dX19_open_107 : decode cX19_open 107 = .ok (.aload 4, 2) := by decide +kernel
theorem dX19_open_109 : decode cX19_open 109 = .ok (.getfield 340, 3) := by decide +kernel
theorem dX19_open_112 : decode cX19_open 112 = .ok (.iload 5, 2) := by decide +kernel
theorem dX19_open_114 : decode cX19_open 114 = .ok (.aaload, 1) := by decide +kernel
theorem dX19_open_115 : decode cX19_open 115 = .ok (.ldc_w 891, 3) := by decide +kernel
theorem dX19_open_118 : decode cX19_open 118 = .ok (.aload 4, 2) := by decide +kernel
theorem dX19_open_120 : decode cX19_open 120 = .ok (.getfield 888, 3) := by decide +kernel
theorem dX19_open_123 : decode cX19_open 123 = .ok (.iadd, 1) := by decide +kernel
theorem dX19_open_124 : decode cX19_open 124 = .ok (.iload_n 2, 1) := by decide +kernel
theorem dX19_open_125 : decode cX19_open 125 = .ok (.iload_n 3, 1) := by decide +kernel
theorem dX19_open_126 : decode cX19_open 126 = .ok (.invokevirtual 797, 3) := by decide +kernel
theorem dX19_open_129 : decode cX19_open 129 = .ok (.aload 4, 2) := by decide +kernel
theorem dX19_open_131 : decode cX19_open 131 = .ok (.dup, 1) := by decide +kernel
theorem dX19_open_132 : decode cX19_open 132 = .ok (.getfield 888, 3) := by decide +kernel
theorem dX19_open_135 : decode cX19_open 135 = .ok (.iconst 1, 1) := by decide +kernel
theorem dX19_open_136 : decode cX19_open 136 = .ok (.iadd, 1) := by decide +kernel
theorem dX19_open_137 : decode cX19_open 137 = .ok (.putfield 888, 3) := by decide +kernel
theorem dX19_open_140 : decode cX19_open 140 = .ok (.aload 4, 2) := by decide +kernel
theorem dX19_open_142 : decode cX19_open 142 = .ok (.getfield 340, 3) := by decide +kernel
theorem dX19_open_145 : decode cX19_open 145 = .ok (.iload 5, 2) := by decide +kernel
theorem dX19_open_147 : decode cX19_open 147 = .ok (.aaload, 1) := by decide +kernel
theorem dX19_open_148 : decode cX19_open 148 = .ok (.getfield 344, 3) := by decide +kernel
theorem dX19_open_151 : decode cX19_open 151 = .ok (.astore 6, 2) := by decide +kernel
theorem dX19_open_153 : decode cX19_open 153 = .ok (.aload 6, 2) := by decide +kernel
theorem dX19_open_155 : decode cX19_open 155 = .ok (.iconst 2, 1) := by decide +kernel
theorem dX19_open_156 : decode cX19_open 156 = .ok (.putfield 353, 3) := by decide +kernel
theorem dX19_open_159 : decode cX19_open 159 = .ok (.aload 6, 2) := by decide +kernel
theorem dX19_open_161 : decode cX19_open 161 = .ok (.aload 6, 2) := by decide +kernel
theorem dX19_open_163 : decode cX19_open 163 = .ok (.getfield 588, 3) := by decide +kernel
theorem dX19_open_166 : decode cX19_open 166 = .ok (.iconst 1, 1) := by decide +kernel
theorem dX19_open_167 : decode cX19_open 167 = .ok (.iadd, 1) := by decide +kernel
theorem dX19_open_168 : decode cX19_open 168 = .ok (.putfield 600, 3) := by decide +kernel
theorem dX19_open_171 : decode cX19_open 171 = .ok (.aload 6, 2) := by decide +kernel
theorem dX19_open_173 : decode cX19_open 173 = .ok (.iconst 1, 1) := by decide +kernel
theorem dX19_open_174 : decode cX19_open 174 = .ok (.putfield 613, 3) := by decide +kernel
theorem dX19_open_177 : decode cX19_open 177 = .ok (.aload_n 0, 1) := by decide +kernel
theorem dX19_open_178 : decode cX19_open 178 = .ok (.invokevirtual 168, 3) := by decide +kernel
theorem dX19_open_181 : decode cX19_open 181 = .ok (.iload 5, 2) := by decide +kernel
theorem dX19_open_183 : decode cX19_open 183 = .ok (.ireturn, 1) := by decide +kernel
theorem dX19_accept_0 : decode cX19_accept 0 = .ok (.aload_n 0, 1) := by decide +kernel
theorem dX19_accept_1 : decode cX19_accept 1 = .ok (.aload_n 0, 1) := by decide +kernel
theorem dX19_accept_2 : decode cX19_accept 2 = .ok (.iload_n 1, 1) := by decide +kernel
theorem dX19_accept_3 : decode cX19_accept 3 = .ok (.iload_n 2, 1) := by decide +kernel
theorem dX19_accept_4 : decode cX19_accept 4 = .ok (.invokevirtual 892, 3) := by decide +kernel
theorem dX19_accept_7 : decode cX19_accept 7 = .ok (.ifCond .ne 7, 3) := by decide +kernel
theorem dX19_accept_10 : decode cX19_accept 10 = .ok (.iconst 1, 1) := by decide +kernel
theorem dX19_accept_11 : decode cX19_accept 11 = .ok (.goto 4, 3) := by decide +kernel
theorem dX19_accept_14 : decode cX19_accept 14 = .ok (.iconst 0, 1) := by decide +kernel
theorem dX19_accept_15 : decode cX19_accept 15 = .ok (.aload_n 0, 1) := by decide +kernel
theorem dX19_accept_16 : decode cX19_accept 16 = .ok (.iload_n 1, 1) := by decide +kernel
theorem dX19_accept_17 : decode cX19_accept 17 = .ok (.iload_n 2, 1) := by decide +kernel
theorem dX19_accept_18 : decode cX19_accept 18 = .ok (.invokevirtual 892, 3) := by decide +kernel
theorem dX19_accept_21 : decode cX19_accept 21 = .ok (.ifCond .eq 24, 3) := by decide +kernel
theorem dX19_accept_24 : decode cX19_accept 24 = .ok (.aload_n 0, 1) := by decide +kernel
theorem dX19_accept_25 : decode cX19_accept 25 = .ok (.getfield 114, 3) := by decide +kernel
theorem dX19_accept_28 : decode cX19_accept 28 = .ok (.iload_n 1, 1) := by decide +kernel
theorem dX19_accept_29 : decode cX19_accept 29 = .ok (.aaload, 1) := by decide +kernel
theorem dX19_accept_30 : decode cX19_accept 30 = .ok (.getfield 340, 3) := by decide +kernel
theorem dX19_accept_33 : decode cX19_accept 33 = .ok (.iload_n 2, 1) := by decide +kernel
theorem dX19_accept_34 : decode cX19_accept 34 = .ok (.aaload, 1) := by decide +kernel
theorem dX19_accept_35 : decode cX19_accept 35 = .ok (.getfield 747, 3) := by decide +kernel
theorem dX19_accept_38 : decode cX19_accept 38 = .ok (.ifCond .ne 7, 3) := by decide +kernel
theorem dX19_accept_41 : decode cX19_accept 41 = .ok (.iconst 1, 1) := by decide +kernel
theorem dX19_accept_42 : decode cX19_accept 42 = .ok (.goto 4, 3) := by decide +kernel
theorem dX19_accept_45 : decode cX19_accept 45 = .ok (.iconst 0, 1) := by decide +kernel
theorem dX19_accept_46 : decode cX19_accept 46 = .ok (.invokevirtual 865, 3) := by decide +kernel
theorem dX19_accept_49 : decode cX19_accept 49 = .ok (.ifCond .eq 5, 3) := by decide +kernel
theorem dX19_accept_52 : decode cX19_accept 52 = .ok (.iconst 0, 1) := by decide +kernel
theorem dX19_accept_53 : decode cX19_accept 53 = .ok (.ireturn, 1) := by decide +kernel
theorem dX19_accept_54 : decode cX19_accept 54 = .ok (.iconst 0, 1) := by decide +kernel
theorem dX19_accept_55 : decode cX19_accept 55 = .ok (.istore_n 3, 1) := by decide +kernel
theorem dX19_accept_56 : decode cX19_accept 56 = .ok (.iload_n 3, 1) := by decide +kernel
theorem dX19_accept_57 : decode cX19_accept 57 = .ok (.bipush 6, 2) := by decide +kernel
theorem dX19_accept_59 : decode cX19_accept 59 = .ok (.if_icmp .ge 80, 3) := by decide +kernel
theorem dX19_accept_62 : decode cX19_accept 62 = .ok (.aload_n 0, 1) := by decide +kernel
theorem dX19_accept_63 : decode cX19_accept 63 = .ok (.getfield 114, 3) := by decide +kernel
theorem dX19_accept_66 : decode cX19_accept 66 = .ok (.iload_n 1, 1) := by decide +kernel
theorem dX19_accept_67 : decode cX19_accept 67 = .ok (.aaload, 1) := by decide +kernel
theorem dX19_accept_68 : decode cX19_accept 68 = .ok (.getfield 340, 3) := by decide +kernel
theorem dX19_accept_71 : decode cX19_accept 71 = .ok (.iload_n 3, 1) := by decide +kernel
theorem dX19_accept_72 : decode cX19_accept 72 = .ok (.aaload, 1) := by decide +kernel
theorem dX19_accept_73 : decode cX19_accept 73 = .ok (.astore 4, 2) := by decide +kernel
theorem dX19_accept_75 : decode cX19_accept 75 = .ok (.aload 4, 2) := by decide +kernel
theorem dX19_accept_77 : decode cX19_accept 77 = .ok (.getfield 350, 3) := by decide +kernel
theorem dX19_accept_80 : decode cX19_accept 80 = .ok (.ifCond .eq 53, 3) := by decide +kernel
theorem dX19_accept_83 : decode cX19_accept 83 = .ok (.aload 4, 2) := by decide +kernel
theorem dX19_accept_85 : decode cX19_accept 85 = .ok (.getfield 761, 3) := by decide +kernel
theorem dX19_accept_88 : decode cX19_accept 88 = .ok (.iload_n 2, 1) := by decide +kernel
theorem dX19_accept_89 : decode cX19_accept 89 = .ok (.if_icmp .ne 44, 3) := by decide +kernel
theorem dX19_accept_92 : decode cX19_accept 92 = .ok (.aload 4, 2) := by decide +kernel
theorem dX19_accept_94 : decode cX19_accept 94 = .ok (.getfield 767, 3) := by decide +kernel
theorem dX19_accept_97 : decode cX19_accept 97 = .ok (.ifCond .ne 36, 3) := by decide +kernel
theorem dX19_accept_100 : decode cX19_accept 100 = .ok (.aload 4, 2) := by decide +kernel
theorem dX19_accept_102 : decode cX19_accept 102 = .ok (.getfield 344, 3) := by decide +kernel
theorem dX19_accept_105 : decode cX19_accept 105 = .ok (.getfield 353, 3) := by decide +kernel
theorem dX19_accept_108 : decode cX19_accept 108 = .ok (.iconst 4, 1) := by decide +kernel
theorem dX19_accept_109 : decode cX19_accept 109 = .ok (.if_icmp .lt 24, 3) := by decide +kernel
theorem dX19_accept_112 : decode cX19_accept 112 = .ok (.aload 4, 2) := by decide +kernel
theorem dX19_accept_114 : decode cX19_accept 114 = .ok (.getfield 344, 3) := by decide +kernel
theorem dX19_accept_117 : decode cX19_accept 117 = .ok (.getfield 353, 3) := by decide +kernel
theorem dX19_accept_120 : decode cX19_accept 120 = .ok (.bipush 10, 2) := by decide +kernel
theorem dX19_accept_122 : decode cX19_accept 122 = .ok (.if_icmp .gt 11, 3) := by decide +kernel
theorem dX19_accept_125 : decode cX19_accept 125 = .ok (.aload 4, 2) := by decide +kernel
theorem dX19_accept_127 : decode cX19_accept 127 = .ok (.iconst 1, 1) := by decide +kernel
theorem dX19_accept_128 : decode cX19_accept 128 = .ok (.putfield 767, 3) := by decide +kernel
theorem dX19_accept_131 : decode cX19_accept 131 = .ok (.iload_n 3, 1) := by decide +kernel
theorem dX19_accept_132 : decode cX19_accept 132 = .ok (.ireturn, 1) := by decide +kernel
theorem dX19_accept_133 : decode cX19_accept 133 = .ok (.iinc 3 1, 3) := by decide +kernel
theorem dX19_accept_136 : decode cX19_accept 136 = .ok (.goto (-80), 3) := by decide +kernel
theorem dX19_accept_139 : decode cX19_accept 139 = .ok (.iconst (-1), 1) := by decide +kernel
theorem dX19_accept_140 : decode cX19_accept 140 = .ok (.ireturn, 1) := by decide +kernel
theorem dX19_endAt_0 : decode cX19_endAt 0 = .ok (.aload_n 0, 1) := by decide +kernel
theorem dX19_endAt_1 : decode cX19_endAt 1 = .ok (.iload_n 1, 1) := by decide +kernel
theorem dX19_endAt_2 : decode cX19_endAt 2 = .ok (.iload_n 2, 1) := by decide +kernel
theorem dX19_endAt_3 : decode cX19_endAt 3 = .ok (.invokevirtual 892, 3) := by decide +kernel
theorem dX19_endAt_6 : decode cX19_endAt 6 = .ok (.ifCond .eq 37, 3) := by decide +kernel
theorem dX19_endAt_9 : decode cX19_endAt 9 = .ok (.aload_n 0, 1) := by decide +kernel
theorem dX19_endAt_10 : decode cX19_endAt 10 = .ok (.getfield 114, 3) := by decide +kernel
theorem dX19_endAt_13 : decode cX19_endAt 13 = .ok (.iload_n 1, 1) := by decide +kernel
theorem dX19_endAt_14 : decode cX19_endAt 14 = .ok (.aaload, 1) := by decide +kernel
theorem dX19_endAt_15 : decode cX19_endAt 15 = .ok (.getfield 340, 3) := by decide +kernel
theorem dX19_endAt_18 : decode cX19_endAt 18 = .ok (.iload_n 2, 1) := by decide +kernel
theorem dX19_endAt_19 : decode cX19_endAt 19 = .ok (.aaload, 1) := by decide +kernel
theorem dX19_endAt_20 : decode cX19_endAt 20 = .ok (.getfield 350, 3) := by decide +kernel
theorem dX19_endAt_23 : decode cX19_endAt 23 = .ok (.ifCond .eq 20, 3) := by decide +kernel
theorem dX19_endAt_26 : decode cX19_endAt 26 = .ok (.aload_n 0, 1) := by decide +kernel
theorem dX19_endAt_27 : decode cX19_endAt 27 = .ok (.getfield 114, 3) := by decide +kernel
theorem dX19_endAt_30 : decode cX19_endAt 30 = .ok (.iload_n 1, 1) := by decide +kernel
theorem dX19_endAt_31 : decode cX19_endAt 31 = .ok (.aaload, 1) := by decide +kernel
theorem dX19_endAt_32 : decode cX19_endAt 32 = .ok (.getfield 340, 3) := by decide +kernel
theorem dX19_endAt_35 : decode cX19_endAt 35 = .ok (.iload_n 2, 1) := by decide +kernel
theorem dX19_endAt_36 : decode cX19_endAt 36 = .ok (.aaload, 1) := by decide +kernel
theorem dX19_endAt_37 : decode cX19_endAt 37 = .ok (.getfield 344, 3) := by decide +kernel
theorem dX19_endAt_40 : decode cX19_endAt 40 = .ok (.goto 4, 3) := by decide +kernel
theorem dX19_endAt_43 : decode cX19_endAt 43 = .ok (.aconst_null, 1) := by decide +kernel
theorem dX19_endAt_44 : decode cX19_endAt 44 = .ok (.areturn, 1) := by decide +kernel
theorem dX19_writes_0 : decode cX19_writes 0 = .ok (.aload_n 1, 1) := by decide +kernel
theorem dX19_writes_1 : decode cX19_writes 1 = .ok (.invokevirtual 895, 3) := by decide +kernel
theorem dX19_writes_4 : decode cX19_writes 4 = .ok (.sipush 2048, 3) := by decide +kernel
theorem dX19_writes_7 : decode cX19_writes 7 = .ok (.if_icmp .ne 5, 3) := by decide +kernel
theorem dX19_writes_10 : decode cX19_writes 10 = .ok (.iconst 0, 1) := by decide +kernel
theorem dX19_writes_11 : decode cX19_writes 11 = .ok (.ireturn, 1) := by decide +kernel
theorem dX19_writes_12 : decode cX19_writes 12 = .ok (.aload_n 1, 1) := by decide +kernel
theorem dX19_writes_13 : decode cX19_writes 13 = .ok (.getfield 688, 3) := by decide +kernel
theorem dX19_writes_16 : decode cX19_writes 16 = .ok (.aload_n 1, 1) := by decide +kernel
theorem dX19_writes_17 : decode cX19_writes 17 = .ok (.getfield 658, 3) := by decide +kernel
theorem dX19_writes_20 : decode cX19_writes 20 = .ok (.aload_n 1, 1) := by decide +kernel
theorem dX19_writes_21 : decode cX19_writes 21 = .ok (.getfield 588, 3) := by decide +kernel
theorem dX19_writes_24 : decode cX19_writes 24 = .ok (.iconst 1, 1) := by decide +kernel
theorem dX19_writes_25 : decode cX19_writes 25 = .ok (.iadd, 1) := by decide +kernel
theorem dX19_writes_26 : decode cX19_writes 26 = .ok (.isub, 1) := by decide +kernel
theorem dX19_writes_27 : decode cX19_writes 27 = .ok (.sipush 2047, 3) := by decide +kernel
theorem dX19_writes_30 : decode cX19_writes 30 = .ok (.iand, 1) := by decide +kernel
theorem dX19_writes_31 : decode cX19_writes 31 = .ok (.iload_n 2, 1) := by decide +kernel
theorem dX19_writes_32 : decode cX19_writes 32 = .ok (.i2b, 1) := by decide +kernel
theorem dX19_writes_33 : decode cX19_writes 33 = .ok (.bastore, 1) := by decide +kernel
theorem dX19_writes_34 : decode cX19_writes 34 = .ok (.aload_n 1, 1) := by decide +kernel
theorem dX19_writes_35 : decode cX19_writes 35 = .ok (.dup, 1) := by decide +kernel
theorem dX19_writes_36 : decode cX19_writes 36 = .ok (.getfield 658, 3) := by decide +kernel
theorem dX19_writes_39 : decode cX19_writes 39 = .ok (.iconst 1, 1) := by decide +kernel
theorem dX19_writes_40 : decode cX19_writes 40 = .ok (.iadd, 1) := by decide +kernel
theorem dX19_writes_41 : decode cX19_writes 41 = .ok (.putfield 658, 3) := by decide +kernel
theorem dX19_writes_44 : decode cX19_writes 44 = .ok (.aload_n 0, 1) := by decide +kernel
theorem dX19_writes_45 : decode cX19_writes 45 = .ok (.aload_n 1, 1) := by decide +kernel
theorem dX19_writes_46 : decode cX19_writes 46 = .ok (.getfield 732, 3) := by decide +kernel
theorem dX19_writes_49 : decode cX19_writes 49 = .ok (.iload_n 2, 1) := by decide +kernel
theorem dX19_writes_50 : decode cX19_writes 50 = .ok (.invokevirtual 898, 3) := by decide +kernel
theorem dX19_writes_53 : decode cX19_writes 53 = .ok (.iconst 1, 1) := by decide +kernel
theorem dX19_writes_54 : decode cX19_writes 54 = .ok (.ireturn, 1) := by decide +kernel
theorem dX19_write_0 : decode cX19_write 0 = .ok (.aload_n 0, 1) := by decide +kernel
theorem dX19_write_1 : decode cX19_write 1 = .ok (.iload_n 1, 1) := by decide +kernel
theorem dX19_write_2 : decode cX19_write 2 = .ok (.iload_n 2, 1) := by decide +kernel
theorem dX19_write_3 : decode cX19_write 3 = .ok (.invokevirtual 901, 3) := by decide +kernel
theorem dX19_write_6 : decode cX19_write 6 = .ok (.astore 6, 2) := by decide +kernel
theorem dX19_write_8 : decode cX19_write 8 = .ok (.aload_n 0, 1) := by decide +kernel
theorem dX19_write_9 : decode cX19_write 9 = .ok (.aload_n 0, 1) := by decide +kernel
theorem dX19_write_10 : decode cX19_write 10 = .ok (.iload_n 1, 1) := by decide +kernel
theorem dX19_write_11 : decode cX19_write 11 = .ok (.iload_n 2, 1) := by decide +kernel
theorem dX19_write_12 : decode cX19_write 12 = .ok (.invokevirtual 892, 3) := by decide +kernel
theorem dX19_write_15 : decode cX19_write 15 = .ok (.ifCond .eq 16, 3) := by decide +kernel
theorem dX19_write_18 : decode cX19_write 18 = .ok (.iload 5, 2) := by decide +kernel
theorem dX19_write_20 : decode cX19_write 20 = .ok (.iconst 1, 1) := by decide +kernel
theorem dX19_write_21 : decode cX19_write 21 = .ok (.if_icmp .lt 10, 3) := by decide +kernel
theorem dX19_write_24 : decode cX19_write 24 = .ok (.iload 5, 2) := by decide +kernel
theorem dX19_write_26 : decode cX19_write 26 = .ok (.bipush 8, 2) := by decide +kernel
theorem dX19_write_28 : decode cX19_write 28 = .ok (.if_icmp .le 7, 3) := by decide +kernel
theorem dX19_write_31 : decode cX19_write 31 = .ok (.iconst 1, 1) := by decide +kernel
theorem dX19_write_32 : decode cX19_write 32 = .ok (.goto 4, 3) := by decide +kernel
theorem dX19_write_35 : decode cX19_write 35 = .ok (.iconst 0, 1) := by decide +kernel
theorem dX19_write_36 : decode cX19_write 36 = .ok (.aload 6, 2) := by decide +kernel
theorem dX19_write_38 : decode cX19_write 38 = .ok (.ifnull 11, 3) := by decide +kernel
theorem dX19_write_41 : decode cX19_write 41 = .ok (.aload 6, 2) := by decide +kernel
theorem dX19_write_43 : decode cX19_write 43 = .ok (.invokevirtual 905, 3) := by decide +kernel
theorem dX19_write_46 : decode cX19_write 46 = .ok (.ifCond .ne 7, 3) := by decide +kernel
theorem dX19_write_49 : decode cX19_write 49 = .ok (.iconst 1, 1) := by decide +kernel
theorem dX19_write_50 : decode cX19_write 50 = .ok (.goto 4, 3) := by decide +kernel
theorem dX19_write_53 : decode cX19_write 53 = .ok (.iconst 0, 1) := by decide +kernel
theorem dX19_write_54 : decode cX19_write 54 = .ok (.invokevirtual 865, 3) := by decide +kernel
theorem dX19_write_57 : decode cX19_write 57 = .ok (.ifCond .eq 5, 3) := by decide +kernel
theorem dX19_write_60 : decode cX19_write 60 = .ok (.iconst 0, 1) := by decide +kernel
theorem dX19_write_61 : decode cX19_write 61 = .ok (.ireturn, 1) := by decide +kernel
theorem dX19_write_62 : decode cX19_write 62 = .ok (.iconst 0, 1) := by decide +kernel
theorem dX19_write_63 : decode cX19_write 63 = .ok (.istore 7, 2) := by decide +kernel
theorem dX19_write_65 : decode cX19_write 65 = .ok (.iload 7, 2) := by decide +kernel
theorem dX19_write_67 : decode cX19_write 67 = .ok (.iload 5, 2) := by decide +kernel
theorem dX19_write_69 : decode cX19_write 69 = .ok (.if_icmp .ge 31, 3) := by decide +kernel
theorem dX19_write_72 : decode cX19_write 72 = .ok (.aload_n 0, 1) := by decide +kernel
theorem dX19_write_73 : decode cX19_write 73 = .ok (.aload 6, 2) := by decide +kernel
theorem dX19_write_75 : decode cX19_write 75 = .ok (.lload_n 3, 1) := by decide +kernel
theorem dX19_write_76 : decode cX19_write 76 = .ok (.bipush 8, 2) := by decide +kernel
theorem dX19_write_78 : decode cX19_write 78 = .ok (.iload 5, 2) := by decide +kernel
theorem dX19_write_80 : decode cX19_write 80 = .ok (.iconst 1, 1) := by decide +kernel
theorem dX19_write_81 : decode cX19_write 81 = .ok (.isub, 1) := by decide +kernel
theorem dX19_write_82 : decode cX19_write 82 = .ok (.iload 7, 2) := by decide +kernel
theorem dX19_write_84 : decode cX19_write 84 = .ok (.isub, 1) := by decide +kernel
theorem dX19_write_85 : decode cX19_write 85 = .ok (.imul, 1) := by decide +kernel
theorem dX19_write_86 : decode cX19_write 86 = .ok (.lshr, 1) := by decide +kernel
theorem dX19_write_87 : decode cX19_write 87 = .ok (.l2i, 1) := by decide +kernel
theorem dX19_write_88 : decode cX19_write 88 = .ok (.invokevirtual 908, 3) := by decide +kernel
theorem dX19_write_91 : decode cX19_write 91 = .ok (.ifCond .eq 9, 3) := by decide +kernel
theorem dX19_write_94 : decode cX19_write 94 = .ok (.iinc 7 1, 3) := by decide +kernel
theorem dX19_write_97 : decode cX19_write 97 = .ok (.goto (-32), 3) := by decide +kernel
theorem dX19_write_100 : decode cX19_write 100 = .ok (.aload 6, 2) := by decide +kernel
theorem dX19_write_102 : decode cX19_write 102 = .ok (.aload_n 0, 1) := by decide +kernel
theorem dX19_write_103 : decode cX19_write 103 = .ok (.getfield 143, 3) := by decide +kernel
theorem dX19_write_106 : decode cX19_write 106 = .ok (.invokevirtual 819, 3) := by decide +kernel
theorem dX19_write_109 : decode cX19_write 109 = .ok (.aload_n 0, 1) := by decide +kernel
theorem dX19_write_110 : decode cX19_write 110 = .ok (.invokevirtual 168, 3) := by decide +kernel
theorem dX19_write_113 : decode cX19_write 113 = .ok (.iload 7, 2) := by decide +kernel
theorem dX19_write_115 : decode cX19_write 115 = .ok (.ireturn, 1) := by decide +kernel
