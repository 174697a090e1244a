theorem dX11_release_0 : decode cX11_release 0 = .ok (.iconst 0, 1) := by decide +kernel
theorem dX11_release_1 : decode cX11_release 1 = .ok (.istore_n 3, 1) := by decide +kernel
theorem dX11_release_2 : decode cX11_release 2 = .ok (.iload_n 3, 1) := by decide +kernel
theorem dX11_release_3 : decode cX11_release 3 = .ok (.bipush 16, 2) := by decide +kernel
theorem dX11_release_5 : decode cX11_release 5 = .ok (.if_icmp .gt 36, 3) := by decide +kernel
theorem dX11_release_8 : decode cX11_release 8 = .ok (.aload_n 1, 1) := by decide +kernel
theorem dX11_release_9 : decode cX11_release 9 = .ok (.iload_n 2, 1) := by decide +kernel
theorem dX11_release_10 : decode cX11_release 10 = .ok (.invokevirtual 572, 3) := by decide +kernel
theorem dX11_release_13 : decode cX11_release 13 = .ok (.istore 4, 2) := by decide +kernel
theorem dX11_release_15 : decode cX11_release 15 = .ok (.iload 4, 2) := by decide +kernel
theorem dX11_release_17 : decode cX11_release 17 = .ok (.ifCond .ge 6, 3) := by decide +kernel
theorem dX11_release_20 : decode cX11_release 20 = .ok (.goto 21, 3) := by decide +kernel
theorem dX11_release_23 : decode cX11_release 23 = .ok (.aload_n 0, 1) := by decide +kernel
theorem dX11_release_24 : decode cX11_release 24 = .ok (.aload_n 1, 1) := by decide +kernel
theorem dX11_release_25 : decode cX11_release 25 = .ok (.iload_n 2, 1) := by decide +kernel
theorem dX11_release_26 : decode cX11_release 26 = .ok (.aload_n 1, 1) := by decide +kernel
theorem dX11_release_27 : decode cX11_release 27 = .ok (.iload 4, 2) := by decide +kernel
theorem dX11_release_29 : decode cX11_release 29 = .ok (.invokevirtual 568, 3) := by decide +kernel
theorem dX11_release_32 : decode cX11_release 32 = .ok (.invokevirtual 545, 3) := by decide +kernel
theorem dX11_release_35 : decode cX11_release 35 = .ok (.iinc 3 1, 3) := by decide +kernel
theorem dX11_release_38 : decode cX11_release 38 = .ok (.goto (-36), 3) := by decide +kernel
theorem dX11_release_41 : decode cX11_release 41 = .ok (.aload_n 1, 1) := by decide +kernel
theorem dX11_release_42 : decode cX11_release 42 = .ok (.iload_n 2, 1) := by decide +kernel
theorem dX11_release_43 : decode cX11_release 43 = .ok (.invokevirtual 575, 3) := by decide +kernel
theorem dX11_release_46 : decode cX11_release 46 = .ok (.return_, 1) := by decide +kernel
theorem dX11_letArrive_0 : decode cX11_letArrive 0 = .ok (.aload_n 0, 1) := by decide +kernel
theorem dX11_letArrive_1 : decode cX11_letArrive 1 = .ok (.getfield 176, 3) := by decide +kernel
theorem dX11_letArrive_4 : decode cX11_letArrive 4 = .ok (.sipush 255, 3) := by decide +kernel
theorem dX11_letArrive_7 : decode cX11_letArrive 7 = .ok (.iand, 1) := by decide +kernel
theorem dX11_letArrive_8 : decode cX11_letArrive 8 = .ok (.istore_n 1, 1) := by decide +kernel
theorem dX11_letArrive_9 : decode cX11_letArrive 9 = .ok (.iconst 0, 1) := by decide +kernel
theorem dX11_letArrive_10 : decode cX11_letArrive 10 = .ok (.istore_n 2, 1) := by decide +kernel
theorem dX11_letArrive_11 : decode cX11_letArrive 11 = .ok (.iload_n 2, 1) := by decide +kernel
theorem dX11_letArrive_12 : decode cX11_letArrive 12 = .ok (.sipush 512, 3) := by decide +kernel
theorem dX11_letArrive_15 : decode cX11_letArrive 15 = .ok (.if_icmp .ge 175, 3) := by decide +kernel
theorem dX11_letArrive_18 : decode cX11_letArrive 18 = .ok (.aload_n 0, 1) := by decide +kernel
theorem dX11_letArrive_19 : decode cX11_letArrive 19 = .ok (.getfield 23, 3) := by decide +kernel
theorem dX11_letArrive_22 : decode cX11_letArrive 22 = .ok (.iload_n 1, 1) := by decide +kernel
theorem dX11_letArrive_23 : decode cX11_letArrive 23 = .ok (.aaload, 1) := by decide +kernel
theorem dX11_letArrive_24 : decode cX11_letArrive 24 = .ok (.astore_n 3, 1) := by decide +kernel
theorem dX11_letArrive_25 : decode cX11_letArrive 25 = .ok (.aload_n 3, 1) := by decide +kernel
theorem dX11_letArrive_26 : decode cX11_letArrive 26 = .ok (.ifnonnull 6, 3) := by decide +kernel
theorem dX11_letArrive_29 : decode cX11_letArrive 29 = .ok (.goto 161, 3) := by decide +kernel
theorem dX11_letArrive_32 : decode cX11_letArrive 32 = .ok (.aload_n 0, 1) := by decide +kernel
theorem dX11_letArrive_33 : decode cX11_letArrive 33 = .ok (.getfield 23, 3) := by decide +kernel
theorem dX11_letArrive_36 : decode cX11_letArrive 36 = .ok (.iload_n 1, 1) := by decide +kernel
theorem dX11_letArrive_37 : decode cX11_letArrive 37 = .ok (.aload_n 3, 1) := by decide +kernel
theorem dX11_letArrive_38 : decode cX11_letArrive 38 = .ok (.getfield 58, 3) := by decide +kernel
theorem dX11_letArrive_41 : decode cX11_letArrive 41 = .ok (.aastore, 1) := by decide +kernel
theorem dX11_letArrive_42 : decode cX11_letArrive 42 = .ok (.aload_n 3, 1) := by decide +kernel
theorem dX11_letArrive_43 : decode cX11_letArrive 43 = .ok (.getfield 58, 3) := by decide +kernel
theorem dX11_letArrive_46 : decode cX11_letArrive 46 = .ok (.ifnonnull 10, 3) := by decide +kernel
theorem dX11_letArrive_49 : decode cX11_letArrive 49 = .ok (.aload_n 0, 1) := by decide +kernel
theorem dX11_letArrive_50 : decode cX11_letArrive 50 = .ok (.getfield 27, 3) := by decide +kernel
theorem dX11_letArrive_53 : decode cX11_letArrive 53 = .ok (.iload_n 1, 1) := by decide +kernel
theorem dX11_letArrive_54 : decode cX11_letArrive 54 = .ok (.aconst_null, 1) := by decide +kernel
theorem dX11_letArrive_55 : decode cX11_letArrive 55 = .ok (.aastore, 1) := by decide +kernel
theorem dX11_letArrive_56 : decode cX11_letArrive 56 = .ok (.aload_n 0, 1) := by decide +kernel
theorem dX11_letArrive_57 : decode cX11_letArrive 57 = .ok (.dup, 1) := by decide +kernel
theorem dX11_letArrive_58 : decode cX11_letArrive 58 = .ok (.getfield 442, 3) := by decide +kernel
theorem dX11_letArrive_61 : decode cX11_letArrive 61 = .ok (.iconst 1, 1) := by decide +kernel
theorem dX11_letArrive_62 : decode cX11_letArrive 62 = .ok (.isub, 1) := by decide +kernel
theorem dX11_letArrive_63 : decode cX11_letArrive 63 = .ok (.putfield 442, 3) := by decide +kernel
theorem dX11_letArrive_66 : decode cX11_letArrive 66 = .ok (.aload_n 0, 1) := by decide +kernel
theorem dX11_letArrive_67 : decode cX11_letArrive 67 = .ok (.getfield 11, 3) := by decide +kernel
theorem dX11_letArrive_70 : decode cX11_letArrive 70 = .ok (.aload_n 3, 1) := by decide +kernel
theorem dX11_letArrive_71 : decode cX11_letArrive 71 = .ok (.getfield 501, 3) := by decide +kernel
theorem dX11_letArrive_74 : decode cX11_letArrive 74 = .ok (.aaload, 1) := by decide +kernel
theorem dX11_letArrive_75 : decode cX11_letArrive 75 = .ok (.astore 4, 2) := by decide +kernel
theorem dX11_letArrive_77 : decode cX11_letArrive 77 = .ok (.iconst 0, 1) := by decide +kernel
theorem dX11_letArrive_78 : decode cX11_letArrive 78 = .ok (.istore 5, 2) := by decide +kernel
theorem dX11_letArrive_80 : decode cX11_letArrive 80 = .ok (.iload 5, 2) := by decide +kernel
theorem dX11_letArrive_82 : decode cX11_letArrive 82 = .ok (.aload 4, 2) := by decide +kernel
theorem dX11_letArrive_84 : decode cX11_letArrive 84 = .ok (.getfield 124, 3) := by decide +kernel
theorem dX11_letArrive_87 : decode cX11_letArrive 87 = .ok (.if_icmp .ge 92, 3) := by decide +kernel
theorem dX11_letArrive_90 : decode cX11_letArrive 90 = .ok (.aload_n 3, 1) := by decide +kernel
theorem dX11_letArrive_91 : decode cX11_letArrive 91 = .ok (.getfield 525, 3) := by decide +kernel
theorem dX11_letArrive_94 : decode cX11_letArrive 94 = .ok (.ifCond .ge 15, 3) := by decide +kernel
theorem dX11_letArrive_97 : decode cX11_letArrive 97 = .ok (.iload 5, 2) := by decide +kernel
theorem dX11_letArrive_99 : decode cX11_letArrive 99 = .ok (.aload_n 3, 1) := by decide +kernel
theorem dX11_letArrive_100 : decode cX11_letArrive 100 = .ok (.getfield 522, 3) := by decide +kernel
theorem dX11_letArrive_103 : decode cX11_letArrive 103 = .ok (.if_icmp .ne 18, 3) := by decide +kernel
theorem dX11_letArrive_106 : decode cX11_letArrive 106 = .ok (.goto 67, 3) := by decide +kernel
theorem dX11_letArrive_109 : decode cX11_letArrive 109 = .ok (.iload 5, 2) := by decide +kernel
theorem dX11_letArrive_111 : decode cX11_letArrive 111 = .ok (.aload_n 3, 1) := by decide +kernel
theorem dX11_letArrive_112 : decode cX11_letArrive 112 = .ok (.getfield 525, 3) := by decide +kernel
theorem dX11_letArrive_115 : decode cX11_letArrive 115 = .ok (.if_icmp .eq 6, 3) := by decide +kernel
theorem dX11_letArrive_118 : decode cX11_letArrive 118 = .ok (.goto 55, 3) := by decide +kernel
theorem dX11_letArrive_121 : decode cX11_letArrive 121 = .ok (.aload 4, 2) := by decide +kernel
theorem dX11_letArrive_123 : decode cX11_letArrive 123 = .ok (.getfield 138, 3) := by decide +kernel
theorem dX11_letArrive_126 : decode cX11_letArrive 126 = .ok (.iload 5, 2) := by decide +kernel
theorem dX11_letArrive_128 : decode cX11_letArrive 128 = .ok (.aaload, 1) := by decide +kernel
theorem dX11_letArrive_129 : decode cX11_letArrive 129 = .ok (.astore 6, 2) := by decide +kernel
theorem dX11_letArrive_131 : decode cX11_letArrive 131 = .ok (.aload_n 0, 1) := by decide +kernel
theorem dX11_letArrive_132 : decode cX11_letArrive 132 = .ok (.aload 6, 2) := by decide +kernel
theorem dX11_letArrive_134 : decode cX11_letArrive 134 = .ok (.aload_n 3, 1) := by decide +kernel
theorem dX11_letArrive_135 : decode cX11_letArrive 135 = .ok (.invokevirtual 578, 3) := by decide +kernel
theorem dX11_letArrive_138 : decode cX11_letArrive 138 = .ok (.ifCond .eq 10, 3) := by decide +kernel
theorem dX11_letArrive_141 : decode cX11_letArrive 141 = .ok (.aload_n 0, 1) := by decide +kernel
theorem dX11_letArrive_142 : decode cX11_letArrive 142 = .ok (.aload 6, 2) := by decide +kernel
theorem dX11_letArrive_144 : decode cX11_letArrive 144 = .ok (.aload_n 3, 1) := by decide +kernel
theorem dX11_letArrive_145 : decode cX11_letArrive 145 = .ok (.invokevirtual 582, 3) := by decide +kernel
theorem dX11_letArrive_148 : decode cX11_letArrive 148 = .ok (.aload_n 0, 1) := by decide +kernel
theorem dX11_letArrive_149 : decode cX11_letArrive 149 = .ok (.getfield 586, 3) := by decide +kernel
theorem dX11_letArrive_152 : decode cX11_letArrive 152 = .ok (.ifCond .eq 21, 3) := by decide +kernel
theorem dX11_letArrive_155 : decode cX11_letArrive 155 = .ok (.aload_n 0, 1) := by decide +kernel
theorem dX11_letArrive_156 : decode cX11_letArrive 156 = .ok (.iconst 0, 1) := by decide +kernel
theorem dX11_letArrive_157 : decode cX11_letArrive 157 = .ok (.putfield 586, 3) := by decide +kernel
theorem dX11_letArrive_160 : decode cX11_letArrive 160 = .ok (.aload_n 0, 1) := by decide +kernel
theorem dX11_letArrive_161 : decode cX11_letArrive 161 = .ok (.aload 6, 2) := by decide +kernel
theorem dX11_letArrive_163 : decode cX11_letArrive 163 = .ok (.getfield 474, 3) := by decide +kernel
theorem dX11_letArrive_166 : decode cX11_letArrive 166 = .ok (.aload_n 0, 1) := by decide +kernel
theorem dX11_letArrive_167 : decode cX11_letArrive 167 = .ok (.getfield 31, 3) := by decide +kernel
theorem dX11_letArrive_170 : decode cX11_letArrive 170 = .ok (.invokevirtual 589, 3) := by decide +kernel
theorem dX11_letArrive_173 : decode cX11_letArrive 173 = .ok (.iinc 5 1, 3) := by decide +kernel
theorem dX11_letArrive_176 : decode cX11_letArrive 176 = .ok (.goto (-96), 3) := by decide +kernel
theorem dX11_letArrive_179 : decode cX11_letArrive 179 = .ok (.aload_n 0, 1) := by decide +kernel
theorem dX11_letArrive_180 : decode cX11_letArrive 180 = .ok (.aload_n 3, 1) := by decide +kernel
theorem dX11_letArrive_181 : decode cX11_letArrive 181 = .ok (.invokevirtual 504, 3) := by decide +kernel
theorem dX11_letArrive_184 : decode cX11_letArrive 184 = .ok (.iinc 2 1, 3) := by decide +kernel
theorem dX11_letArrive_187 : decode cX11_letArrive 187 = .ok (.goto (-176), 3) := by decide +kernel
theorem dX11_letArrive_190 : decode cX11_letArrive 190 = .ok (.return_, 1) := by decide +kernel
theorem dX11_arriveAt_0 : decode cX11_arriveAt 0 = .ok (.aload_n 1, 1) := by decide +kernel
theorem dX11_arriveAt_1 : decode cX11_arriveAt 1 = .ok (.getfield 474, 3) := by decide +kernel
theorem dX11_arriveAt_4 : decode cX11_arriveAt 4 = .ok (.astore_n 3, 1) := by decide +kernel
theorem dX11_arriveAt_5 : decode cX11_arriveAt 5 = .ok (.aload_n 1, 1) := by decide +kernel
theorem dX11_arriveAt_6 : decode cX11_arriveAt 6 = .ok (.getfield 261, 3) := by decide +kernel
theorem dX11_arriveAt_9 : decode cX11_arriveAt 9 = .ok (.dup, 1) := by decide +kernel
theorem dX11_arriveAt_10 : decode cX11_arriveAt 10 = .ok (.getfield 434, 3) := by decide +kernel
theorem dX11_arriveAt_13 : decode cX11_arriveAt 13 = .ok (.iconst 1, 1) := by decide +kernel
theorem dX11_arriveAt_14 : decode cX11_arriveAt 14 = .ok (.iadd, 1) := by decide +kernel
theorem dX11_arriveAt_15 : decode cX11_arriveAt 15 = .ok (.putfield 434, 3) := by decide +kernel
theorem dX11_arriveAt_18 : decode cX11_arriveAt 18 = .ok (.aload_n 1, 1) := by decide +kernel
theorem dX11_arriveAt_19 : decode cX11_arriveAt 19 = .ok (.getfield 593, 3) := by decide +kernel
theorem dX11_arriveAt_22 : decode cX11_arriveAt 22 = .ok (.aload_n 2, 1) := by decide +kernel
theorem dX11_arriveAt_23 : decode cX11_arriveAt 23 = .ok (.getfield 522, 3) := by decide +kernel
theorem dX11_arriveAt_26 : decode cX11_arriveAt 26 = .ok (.aload_n 0, 1) := by decide +kernel
theorem dX11_arriveAt_27 : decode cX11_arriveAt 27 = .ok (.getfield 176, 3) := by decide +kernel
theorem dX11_arriveAt_30 : decode cX11_arriveAt 30 = .ok (.iastore, 1) := by decide +kernel
theorem dX11_arriveAt_31 : decode cX11_arriveAt 31 = .ok (.aload_n 1, 1) := by decide +kernel
theorem dX11_arriveAt_32 : decode cX11_arriveAt 32 = .ok (.aload_n 2, 1) := by decide +kernel
theorem dX11_arriveAt_33 : decode cX11_arriveAt 33 = .ok (.getfield 522, 3) := by decide +kernel
theorem dX11_arriveAt_36 : decode cX11_arriveAt 36 = .ok (.invokevirtual 549, 3) := by decide +kernel
theorem dX11_arriveAt_39 : decode cX11_arriveAt 39 = .ok (.ifCond .eq 12, 3) := by decide +kernel
theorem dX11_arriveAt_42 : decode cX11_arriveAt 42 = .ok (.aload_n 0, 1) := by decide +kernel
theorem dX11_arriveAt_43 : decode cX11_arriveAt 43 = .ok (.aload_n 1, 1) := by decide +kernel
theorem dX11_arriveAt_44 : decode cX11_arriveAt 44 = .ok (.aload_n 2, 1) := by decide +kernel
theorem dX11_arriveAt_45 : decode cX11_arriveAt 45 = .ok (.getfield 522, 3) := by decide +kernel
theorem dX11_arriveAt_48 : decode cX11_arriveAt 48 = .ok (.invokevirtual 596, 3) := by decide +kernel
theorem dX11_arriveAt_51 : decode cX11_arriveAt 51 = .ok (.aload_n 2, 1) := by decide +kernel
theorem dX11_arriveAt_52 : decode cX11_arriveAt 52 = .ok (.getfield 600, 3) := by decide +kernel
theorem dX11_arriveAt_55 : decode cX11_arriveAt 55 = .ok (.iconst 5, 1) := by decide +kernel
theorem dX11_arriveAt_56 : decode cX11_arriveAt 56 = .ok (.if_icmp .ne 31, 3) := by decide +kernel
theorem dX11_arriveAt_59 : decode cX11_arriveAt 59 = .ok (.aload_n 2, 1) := by decide +kernel
theorem dX11_arriveAt_60 : decode cX11_arriveAt 60 = .ok (.getfield 538, 3) := by decide +kernel
theorem dX11_arriveAt_63 : decode cX11_arriveAt 63 = .ok (.aload_n 1, 1) := by decide +kernel
theorem dX11_arriveAt_64 : decode cX11_arriveAt 64 = .ok (.getfield 141, 3) := by decide +kernel
theorem dX11_arriveAt_67 : decode cX11_arriveAt 67 = .ok (.if_icmp .ne 18, 3) := by decide +kernel
theorem dX11_arriveAt_70 : decode cX11_arriveAt 70 = .ok (.aload_n 0, 1) := by decide +kernel
theorem dX11_arriveAt_71 : decode cX11_arriveAt 71 = .ok (.aload_n 1, 1) := by decide +kernel
theorem dX11_arriveAt_72 : decode cX11_arriveAt 72 = .ok (.aload_n 2, 1) := by decide +kernel
theorem dX11_arriveAt_73 : decode cX11_arriveAt 73 = .ok (.getfield 522, 3) := by decide +kernel
theorem dX11_arriveAt_76 : decode cX11_arriveAt 76 = .ok (.bipush 6, 2) := by decide +kernel
theorem dX11_arriveAt_78 : decode cX11_arriveAt 78 = .ok (.aload_n 2, 1) := by decide +kernel
theorem dX11_arriveAt_79 : decode cX11_arriveAt 79 = .ok (.getfield 535, 3) := by decide +kernel
theorem dX11_arriveAt_82 : decode cX11_arriveAt 82 = .ok (.invokevirtual 558, 3) := by decide +kernel
theorem dX11_arriveAt_85 : decode cX11_arriveAt 85 = .ok (.iconst 0, 1) := by decide +kernel
theorem dX11_arriveAt_86 : decode cX11_arriveAt 86 = .ok (.ireturn, 1) := by decide +kernel
theorem dX11_arriveAt_87 : decode cX11_arriveAt 87 = .ok (.aload_n 2, 1) := by decide +kernel
theorem dX11_arriveAt_88 : decode cX11_arriveAt 88 = .ok (.getfield 600, 3) := by decide +kernel
theorem dX11_arriveAt_91 : decode cX11_arriveAt 91 = .ok (.bipush 6, 2) := by decide +kernel
theorem dX11_arriveAt_93 : decode cX11_arriveAt 93 = .ok (.if_icmp .ne 5, 3) := by decide +kernel
theorem dX11_arriveAt_96 : decode cX11_arriveAt 96 = .ok (.iconst 0, 1) := by decide +kernel
theorem dX11_arriveAt_97 : decode cX11_arriveAt 97 = .ok (.ireturn, 1) := by decide +kernel
theorem dX11_arriveAt_98 : decode cX11_arriveAt 98 = .ok (.aload_n 2, 1) := by decide +kernel
theorem dX11_arriveAt_99 : decode cX11_arriveAt 99 = .ok (.getfield 538, 3) := by decide +kernel
theorem dX11_arriveAt_102 : decode cX11_arriveAt 102 = .ok (.ifCond .eq 49, 3) := by decide +kernel
theorem dX11_arriveAt_105 : decode cX11_arriveAt 105 = .ok (.aload_n 3, 1) := by decide +kernel
theorem dX11_arriveAt_106 : decode cX11_arriveAt 106 = .ok (.aload_n 2, 1) := by decide +kernel
theorem dX11_arriveAt_107 : decode cX11_arriveAt 107 = .ok (.getfield 538, 3) := by decide +kernel
theorem dX11_arriveAt_110 : decode cX11_arriveAt 110 = .ok (.invokevirtual 233, 3) := by decide +kernel
theorem dX11_arriveAt_113 : decode cX11_arriveAt 113 = .ok (.ifCond .ne 38, 3) := by decide +kernel
theorem dX11_arriveAt_116 : decode cX11_arriveAt 116 = .ok (.aload_n 3, 1) := by decide +kernel
theorem dX11_arriveAt_117 : decode cX11_arriveAt 117 = .ok (.getfield 109, 3) := by decide +kernel
theorem dX11_arriveAt_120 : decode cX11_arriveAt 120 = .ok (.ifCond .eq 29, 3) := by decide +kernel
theorem dX11_arriveAt_123 : decode cX11_arriveAt 123 = .ok (.aload_n 2, 1) := by decide +kernel
theorem dX11_arriveAt_124 : decode cX11_arriveAt 124 = .ok (.getfield 525, 3) := by decide +kernel
theorem dX11_arriveAt_127 : decode cX11_arriveAt 127 = .ok (.ifCond .lt 22, 3) := by decide +kernel
theorem dX11_arriveAt_130 : decode cX11_arriveAt 130 = .ok (.aload_n 2, 1) := by decide +kernel
theorem dX11_arriveAt_131 : decode cX11_arriveAt 131 = .ok (.getfield 600, 3) := by decide +kernel
theorem dX11_arriveAt_134 : decode cX11_arriveAt 134 = .ok (.iconst 1, 1) := by decide +kernel
theorem dX11_arriveAt_135 : decode cX11_arriveAt 135 = .ok (.if_icmp .eq 10, 3) := by decide +kernel
theorem dX11_arriveAt_138 : decode cX11_arriveAt 138 = .ok (.aload_n 2, 1) := by decide +kernel
theorem dX11_arriveAt_139 : decode cX11_arriveAt 139 = .ok (.getfield 600, 3) := by decide +kernel
theorem dX11_arriveAt_142 : decode cX11_arriveAt 142 = .ok (.ifCond .ne 7, 3) := by decide +kernel
theorem dX11_arriveAt_145 : decode cX11_arriveAt 145 = .ok (.iconst 1, 1) := by decide +kernel
theorem dX11_arriveAt_146 : decode cX11_arriveAt 146 = .ok (.goto 4, 3) := by decide +kernel
theorem dX11_arriveAt_149 : decode cX11_arriveAt 149 = .ok (.iconst 0, 1) := by decide +kernel
theorem dX11_arriveAt_150 : decode cX11_arriveAt 150 = .ok (.ireturn, 1) := by decide +kernel
theorem dX11_arriveAt_151 : decode cX11_arriveAt 151 = .ok (.aload_n 0, 1) := by decide +kernel
theorem dX11_arriveAt_152 : decode cX11_arriveAt 152 = .ok (.aload_n 3, 1) := by decide +kernel
theorem dX11_arriveAt_153 : decode cX11_arriveAt 153 = .ok (.aload_n 2, 1) := by decide +kernel
theorem dX11_arriveAt_154 : decode cX11_arriveAt 154 = .ok (.invokevirtual 603, 3) := by decide +kernel
theorem dX11_arriveAt_157 : decode cX11_arriveAt 157 = .ok (.astore 4, 2) := by decide +kernel
theorem dX11_arriveAt_159 : decode cX11_arriveAt 159 = .ok (.aload 4, 2) := by decide +kernel
theorem dX11_arriveAt_161 : decode cX11_arriveAt 161 = .ok (.ifnonnull 5, 3) := by decide +kernel
theorem dX11_arriveAt_164 : decode cX11_arriveAt 164 = .ok (.iconst 0, 1) := by decide +kernel
theorem dX11_arriveAt_165 : decode cX11_arriveAt 165 = .ok (.ireturn, 1) := by decide +kernel
theorem dX11_arriveAt_166 : decode cX11_arriveAt 166 = .ok (.aload_n 3, 1) := by decide +kernel
theorem dX11_arriveAt_167 : decode cX11_arriveAt 167 = .ok (.getfield 439, 3) := by decide +kernel
theorem dX11_arriveAt_170 : decode cX11_arriveAt 170 = .ok (.iconst 3, 1) := by decide +kernel
theorem dX11_arriveAt_171 : decode cX11_arriveAt 171 = .ok (.dup2, 1) := by decide +kernel
theorem dX11_arriveAt_172 : decode cX11_arriveAt 172 = .ok (.iaload, 1) := by decide +kernel
theorem dX11_arriveAt_173 : decode cX11_arriveAt 173 = .ok (.iconst 1, 1) := by decide +kernel
theorem dX11_arriveAt_174 : decode cX11_arriveAt 174 = .ok (.iadd, 1) := by decide +kernel
theorem dX11_arriveAt_175 : decode cX11_arriveAt 175 = .ok (.iastore, 1) := by decide +kernel
theorem dX11_arriveAt_176 : decode cX11_arriveAt 176 = .ok (.aload 4, 2) := by decide +kernel
theorem dX11_arriveAt_178 : decode cX11_arriveAt 178 = .ok (.getfield 600, 3) := by decide +kernel
theorem dX11_arriveAt_181 : decode cX11_arriveAt 181 = .ok (.ifCond .ne 13, 3) := by decide +kernel
theorem dX11_arriveAt_184 : decode cX11_arriveAt 184 = .ok (.aload_n 0, 1) := by decide +kernel
theorem dX11_arriveAt_185 : decode cX11_arriveAt 185 = .ok (.aload_n 3, 1) := by decide +kernel
theorem dX11_arriveAt_186 : decode cX11_arriveAt 186 = .ok (.aload 4, 2) := by decide +kernel
theorem dX11_arriveAt_188 : decode cX11_arriveAt 188 = .ok (.invokevirtual 607, 3) := by decide +kernel
theorem dX11_arriveAt_191 : decode cX11_arriveAt 191 = .ok (.goto 36, 3) := by decide +kernel
theorem dX11_arriveAt_194 : decode cX11_arriveAt 194 = .ok (.aload_n 3, 1) := by decide +kernel
theorem dX11_arriveAt_195 : decode cX11_arriveAt 195 = .ok (.getfield 109, 3) := by decide +kernel
theorem dX11_arriveAt_198 : decode cX11_arriveAt 198 = .ok (.ifCond .eq 13, 3) := by decide +kernel
theorem dX11_arriveAt_201 : decode cX11_arriveAt 201 = .ok (.aload_n 0, 1) := by decide +kernel
theorem dX11_arriveAt_202 : decode cX11_arriveAt 202 = .ok (.aload_n 1, 1) := by decide +kernel
theorem dX11_arriveAt_203 : decode cX11_arriveAt 203 = .ok (.aload 4, 2) := by decide +kernel
theorem dX11_arriveAt_205 : decode cX11_arriveAt 205 = .ok (.invokevirtual 610, 3) := by decide +kernel
theorem dX11_arriveAt_208 : decode cX11_arriveAt 208 = .ok (.goto 19, 3) := by decide +kernel
theorem dX11_arriveAt_211 : decode cX11_arriveAt 211 = .ok (.aload 4, 2) := by decide +kernel
theorem dX11_arriveAt_213 : decode cX11_arriveAt 213 = .ok (.getfield 600, 3) := by decide +kernel
theorem dX11_arriveAt_216 : decode cX11_arriveAt 216 = .ok (.iconst 1, 1) := by decide +kernel
theorem dX11_arriveAt_217 : decode cX11_arriveAt 217 = .ok (.if_icmp .ne 10, 3) := by decide +kernel
theorem dX11_arriveAt_220 : decode cX11_arriveAt 220 = .ok (.aload_n 0, 1) := by decide +kernel
theorem dX11_arriveAt_221 : decode cX11_arriveAt 221 = .ok (.aload_n 1, 1) := by decide +kernel
theorem dX11_arriveAt_222 : decode cX11_arriveAt 222 = .ok (.aload 4, 2) := by decide +kernel
theorem dX11_arriveAt_224 : decode cX11_arriveAt 224 = .ok (.invokevirtual 613, 3) := by decide +kernel
theorem dX11_arriveAt_227 : decode cX11_arriveAt 227 = .ok (.iconst 0, 1) := by decide +kernel
theorem dX11_arriveAt_228 : decode cX11_arriveAt 228 = .ok (.ireturn, 1) := by decide +kernel
theorem dX11_takeAsRouter_0 : decode cX11_takeAsRouter 0 = .ok (.aload_n 2, 1) := by decide +kernel
theorem dX11_takeAsRouter_1 : decode cX11_takeAsRouter 1 = .ok (.getfield 600, 3) := by decide +kernel
theorem dX11_takeAsRouter_4 : decode cX11_takeAsRouter 4 = .ok (.iconst 2, 1) := by decide +kernel
theorem dX11_takeAsRouter_5 : decode cX11_takeAsRouter 5 = .ok (.if_icmp .ne 12, 3) := by decide +kernel
theorem dX11_takeAsRouter_8 : decode cX11_takeAsRouter 8 = .ok (.aload_n 0, 1) := by decide +kernel
theorem dX11_takeAsRouter_9 : decode cX11_takeAsRouter 9 = .ok (.aload_n 1, 1) := by decide +kernel
theorem dX11_takeAsRouter_10 : decode cX11_takeAsRouter 10 = .ok (.aload_n 2, 1) := by decide +kernel
theorem dX11_takeAsRouter_11 : decode cX11_takeAsRouter 11 = .ok (.invokevirtual 616, 3) := by decide +kernel
theorem dX11_takeAsRouter_14 : decode cX11_takeAsRouter 14 = .ok (.goto 34, 3) := by decide +kernel
theorem dX11_takeAsRouter_17 : decode cX11_takeAsRouter 17 = .ok (.aload_n 2, 1) := by decide +kernel
theorem dX11_takeAsRouter_18 : decode cX11_takeAsRouter 18 = .ok (.getfield 600, 3) := by decide +kernel
theorem dX11_takeAsRouter_21 : decode cX11_takeAsRouter 21 = .ok (.iconst 3, 1) := by decide +kernel
theorem dX11_takeAsRouter_22 : decode cX11_takeAsRouter 22 = .ok (.if_icmp .ne 12, 3) := by decide +kernel
theorem dX11_takeAsRouter_25 : decode cX11_takeAsRouter 25 = .ok (.aload_n 0, 1) := by decide +kernel
theorem dX11_takeAsRouter_26 : decode cX11_takeAsRouter 26 = .ok (.aload_n 1, 1) := by decide +kernel
theorem dX11_takeAsRouter_27 : decode cX11_takeAsRouter 27 = .ok (.aload_n 2, 1) := by decide +kernel
theorem dX11_takeAsRouter_28 : decode cX11_takeAsRouter 28 = .ok (.invokevirtual 619, 3) := by decide +kernel
theorem dX11_takeAsRouter_31 : decode cX11_takeAsRouter 31 = .ok (.goto 17, 3) := by decide +kernel
theorem dX11_takeAsRouter_34 : decode cX11_takeAsRouter 34 = .ok (.aload_n 2, 1) := by decide +kernel
theorem dX11_takeAsRouter_35 : decode cX11_takeAsRouter 35 = .ok (.getfield 600, 3) := by decide +kernel
theorem dX11_takeAsRouter_38 : decode cX11_takeAsRouter 38 = .ok (.iconst 4, 1) := by decide +kernel
theorem dX11_takeAsRouter_39 : decode cX11_takeAsRouter 39 = .ok (.if_icmp .ne 9, 3) := by decide +kernel
theorem dX11_takeAsRouter_42 : decode cX11_takeAsRouter 42 = .ok (.aload_n 0, 1) := by decide +kernel
theorem dX11_takeAsRouter_43 : decode cX11_takeAsRouter 43 = .ok (.aload_n 1, 1) := by decide +kernel
theorem dX11_takeAsRouter_44 : decode cX11_takeAsRouter 44 = .ok (.aload_n 2, 1) := by decide +kernel
theorem dX11_takeAsRouter_45 : decode cX11_takeAsRouter 45 = .ok (.invokevirtual 622, 3) := by decide +kernel
theorem dX11_takeAsRouter_48 : decode cX11_takeAsRouter 48 = .ok (.return_, 1) := by decide +kernel
theorem dX11_putTogether_0 : decode cX11_putTogether 0 = .ok (.aload_n 2, 1) := by decide +kernel
theorem dX11_putTogether_1 : decode cX11_putTogether 1 = .ok (.getfield 528, 3) := by decide +kernel
theorem dX11_putTogether_4 : decode cX11_putTogether 4 = .ok (.aload_n 2, 1) := by decide +kernel
theorem dX11_putTogether_5 : decode cX11_putTogether 5 = .ok (.getfield 625, 3) := by decide +kernel
theorem dX11_putTogether_8 : decode cX11_putTogether 8 = .ok (.if_icmp .lt 5, 3) := by decide +kernel
theorem dX11_putTogether_11 : decode cX11_putTogether 11 = .ok (.aload_n 2, 1) := by decide +kernel
theorem dX11_putTogether_12 : decode cX11_putTogether 12 = .ok (.areturn, 1) := by decide +kernel
theorem dX11_putTogether_13 : decode cX11_putTogether 13 = .ok (.aload_n 1, 1) := by decide +kernel
theorem dX11_putTogether_14 : decode cX11_putTogether 14 = .ok (.aload_n 2, 1) := by decide +kernel
theorem dX11_putTogether_15 : decode cX11_putTogether 15 = .ok (.invokevirtual 628, 3) := by decide +kernel
theorem dX11_putTogether_18 : decode cX11_putTogether 18 = .ok (.istore_n 3, 1) := by decide +kernel
theorem dX11_putTogether_19 : decode cX11_putTogether 19 = .ok (.iload_n 3, 1) := by decide +kernel
theorem dX11_putTogether_20 : decode cX11_putTogether 20 = .ok (.ifCond .ge 31, 3) := by decide +kernel
theorem dX11_putTogether_23 : decode cX11_putTogether 23 = .ok (.aload_n 1, 1) := by decide +kernel
theorem dX11_putTogether_24 : decode cX11_putTogether 24 = .ok (.invokevirtual 632, 3) := by decide +kernel
theorem dX11_putTogether_27 : decode cX11_putTogether 27 = .ok (.istore_n 3, 1) := by decide +kernel
theorem dX11_putTogether_28 : decode cX11_putTogether 28 = .ok (.iload_n 3, 1) := by decide +kernel
theorem dX11_putTogether_29 : decode cX11_putTogether 29 = .ok (.ifCond .ge 12, 3) := by decide +kernel
theorem dX11_putTogether_32 : decode cX11_putTogether 32 = .ok (.aload_n 1, 1) := by decide +kernel
theorem dX11_putTogether_33 : decode cX11_putTogether 33 = .ok (.invokevirtual 635, 3) := by decide +kernel
theorem dX11_putTogether_36 : decode cX11_putTogether 36 = .ok (.istore_n 3, 1) := by decide +kernel
theorem dX11_putTogether_37 : decode cX11_putTogether 37 = .ok (.aload_n 0, 1) := by decide +kernel
theorem dX11_putTogether_38 : decode cX11_putTogether 38 = .ok (.invokevirtual 75, 3) := by decide +kernel
theorem dX11_putTogether_41 : decode cX11_putTogether 41 = .ok (.aload_n 1, 1) := by decide +kernel
theorem dX11_putTogether_42 : decode cX11_putTogether 42 = .ok (.iload_n 3, 1) := by decide +kernel
theorem dX11_putTogether_43 : decode cX11_putTogether 43 = .ok (.aload_n 2, 1) := by decide +kernel
theorem dX11_putTogether_44 : decode cX11_putTogether 44 = .ok (.aload_n 0, 1) := by decide +kernel
theorem dX11_putTogether_45 : decode cX11_putTogether 45 = .ok (.getfield 176, 3) := by decide +kernel
theorem dX11_putTogether_48 : decode cX11_putTogether 48 = .ok (.invokevirtual 638, 3) := by decide +kernel
theorem dX11_putTogether_51 : decode cX11_putTogether 51 = .ok (.aload_n 1, 1) := by decide +kernel
theorem dX11_putTogether_52 : decode cX11_putTogether 52 = .ok (.iload_n 3, 1) := by decide +kernel
theorem dX11_putTogether_53 : decode cX11_putTogether 53 = .ok (.aload_n 2, 1) := by decide +kernel
theorem dX11_putTogether_54 : decode cX11_putTogether 54 = .ok (.invokevirtual 642, 3) := by decide +kernel
theorem dX11_putTogether_57 : decode cX11_putTogether 57 = .ok (.ifCond .ne 5, 3) := by decide +kernel
theorem dX11_putTogether_60 : decode cX11_putTogether 60 = .ok (.aconst_null, 1) := by decide +kernel
theorem dX11_putTogether_61 : decode cX11_putTogether 61 = .ok (.areturn, 1) := by decide +kernel
theorem dX11_putTogether_62 : decode cX11_putTogether 62 = .ok (.aload_n 1, 1) := by decide +kernel
theorem dX11_putTogether_63 : decode cX11_putTogether 63 = .ok (.getfield 646, 3) := by decide +kernel
theorem dX11_putTogether_66 : decode cX11_putTogether 66 = .ok (.iload_n 3, 1) := by decide +kernel
theorem dX11_putTogether_67 : decode cX11_putTogether 67 = .ok (.iconst 0, 1) := by decide +kernel
theorem dX11_putTogether_68 : decode cX11_putTogether 68 = .ok (.iastore, 1) := by decide +kernel
theorem dX11_putTogether_69 : decode cX11_putTogether 69 = .ok (.aload_n 1, 1) := by decide +kernel
theorem dX11_putTogether_70 : decode cX11_putTogether 70 = .ok (.getfield 439, 3) := by decide +kernel
theorem dX11_putTogether_73 : decode cX11_putTogether 73 = .ok (.bipush 6, 2) := by decide +kernel
theorem dX11_putTogether_75 : decode cX11_putTogether 75 = .ok (.dup2, 1) := by decide +kernel
theorem dX11_putTogether_76 : decode cX11_putTogether 76 = .ok (.iaload, 1) := by decide +kernel
theorem dX11_putTogether_77 : decode cX11_putTogether 77 = .ok (.iconst 1, 1) := by decide +kernel
theorem dX11_putTogether_78 : decode cX11_putTogether 78 = .ok (.iadd, 1) := by decide +kernel
theorem dX11_putTogether_79 : decode cX11_putTogether 79 = .ok (.iastore, 1) := by decide +kernel
theorem dX11_putTogether_80 : decode cX11_putTogether 80 = .ok (.aload_n 1, 1) := by decide +kernel
theorem dX11_putTogether_81 : decode cX11_putTogether 81 = .ok (.getfield 649, 3) := by decide +kernel
theorem dX11_putTogether_84 : decode cX11_putTogether 84 = .ok (.iload_n 3, 1) := by decide +kernel
theorem dX11_putTogether_85 : decode cX11_putTogether 85 = .ok (.aaload, 1) := by decide +kernel
theorem dX11_putTogether_86 : decode cX11_putTogether 86 = .ok (.areturn, 1) := by decide +kernel
theorem dX11_givePartialUp_0 : decode cX11_givePartialUp 0 = .ok (.iconst 0, 1) := by decide +kernel
theorem dX11_givePartialUp_1 : decode cX11_givePartialUp 1 = .ok (.istore_n 2, 1) := by decide +kernel
theorem dX11_givePartialUp_2 : decode cX11_givePartialUp 2 = .ok (.iload_n 2, 1) := by decide +kernel
theorem dX11_givePartialUp_3 : decode cX11_givePartialUp 3 = .ok (.iconst 4, 1) := by decide +kernel
theorem dX11_givePartialUp_4 : decode cX11_givePartialUp 4 = .ok (.if_icmp .ge 49, 3) := by decide +kernel
theorem dX11_givePartialUp_7 : decode cX11_givePartialUp 7 = .ok (.aload_n 1, 1) := by decide +kernel
theorem dX11_givePartialUp_8 : decode cX11_givePartialUp 8 = .ok (.getfield 646, 3) := by decide +kernel
theorem dX11_givePartialUp_11 : decode cX11_givePartialUp 11 = .ok (.iload_n 2, 1) := by decide +kernel
theorem dX11_givePartialUp_12 : decode cX11_givePartialUp 12 = .ok (.iaload, 1) := by decide +kernel
theorem dX11_givePartialUp_13 : decode cX11_givePartialUp 13 = .ok (.ifCond .eq 34, 3) := by decide +kernel
theorem dX11_givePartialUp_16 : decode cX11_givePartialUp 16 = .ok (.aload_n 0, 1) := by decide +kernel
theorem dX11_givePartialUp_17 : decode cX11_givePartialUp 17 = .ok (.getfield 176, 3) := by decide +kernel
theorem dX11_givePartialUp_20 : decode cX11_givePartialUp 20 = .ok (.aload_n 1, 1) := by decide +kernel
theorem dX11_givePartialUp_21 : decode cX11_givePartialUp 21 = .ok (.getfield 652, 3) := by decide +kernel
theorem dX11_givePartialUp_24 : decode cX11_givePartialUp 24 = .ok (.iload_n 2, 1) := by decide +kernel
theorem dX11_givePartialUp_25 : decode cX11_givePartialUp 25 = .ok (.iaload, 1) := by decide +kernel
theorem dX11_givePartialUp_26 : decode cX11_givePartialUp 26 = .ok (.isub, 1) := by decide +kernel
theorem dX11_givePartialUp_27 : decode cX11_givePartialUp 27 = .ok (.sipush 300, 3) := by decide +kernel
theorem dX11_givePartialUp_30 : decode cX11_givePartialUp 30 = .ok (.if_icmp .ge 6, 3) := by decide +kernel
theorem dX11_givePartialUp_33 : decode cX11_givePartialUp 33 = .ok (.goto 14, 3) := by decide +kernel
theorem dX11_givePartialUp_36 : decode cX11_givePartialUp 36 = .ok (.aload_n 1, 1) := by decide +kernel
theorem dX11_givePartialUp_37 : decode cX11_givePartialUp 37 = .ok (.getfield 646, 3) := by decide +kernel
theorem dX11_givePartialUp_40 : decode cX11_givePartialUp 40 = .ok (.iload_n 2, 1) := by decide +kernel
theorem dX11_givePartialUp_41 : decode cX11_givePartialUp 41 = .ok (.iconst 0, 1) := by decide +kernel
theorem dX11_givePartialUp_42 : decode cX11_givePartialUp 42 = .ok (.iastore, 1) := by decide +kernel
theorem dX11_givePartialUp_43 : decode cX11_givePartialUp 43 = .ok (.aload_n 0, 1) := by decide +kernel
theorem dX11_givePartialUp_44 : decode cX11_givePartialUp 44 = .ok (.invokevirtual 75, 3) := by decide +kernel
theorem dX11_givePartialUp_47 : decode cX11_givePartialUp 47 = .ok (.iinc 2 1, 3) := by decide +kernel
theorem dX11_givePartialUp_50 : decode cX11_givePartialUp 50 = .ok (.goto (-48), 3) := by decide +kernel
theorem dX11_givePartialUp_53 : decode cX11_givePartialUp 53 = .ok (.return_, 1) := by decide +kernel
theorem dX11_forward_0 : decode cX11_forward 0 = .ok (.aload_n 1, 1) := by decide +kernel
theorem dX11_forward_1 : decode cX11_forward 1 = .ok (.getfield 474, 3) := by decide +kernel
theorem dX11_forward_4 : decode cX11_forward 4 = .ok (.astore_n 3, 1) := by decide +kernel
theorem dX11_forward_5 : decode cX11_forward 5 = .ok (.aload_n 2, 1) := by decide +kernel
theorem dX11_forward_6 : decode cX11_forward 6 = .ok (.aload_n 1, 1) := by decide +kernel
theorem dX11_forward_7 : decode cX11_forward 7 = .ok (.getfield 494, 3) := by decide +kernel
theorem dX11_forward_10 : decode cX11_forward 10 = .ok (.putfield 655, 3) := by decide +kernel
theorem dX11_forward_13 : decode cX11_forward 13 = .ok (.aload_n 2, 1) := by decide +kernel
theorem dX11_forward_14 : decode cX11_forward 14 = .ok (.dup, 1) := by decide +kernel
theorem dX11_forward_15 : decode cX11_forward 15 = .ok (.getfield 658, 3) := by decide +kernel
theorem dX11_forward_18 : decode cX11_forward 18 = .ok (.iconst 1, 1) := by decide +kernel
theorem dX11_forward_19 : decode cX11_forward 19 = .ok (.isub, 1) := by decide +kernel
theorem dX11_forward_20 : decode cX11_forward 20 = .ok (.putfield 658, 3) := by decide +kernel
theorem dX11_forward_23 : decode cX11_forward 23 = .ok (.aload_n 2, 1) := by decide +kernel
theorem dX11_forward_24 : decode cX11_forward 24 = .ok (.getfield 658, 3) := by decide +kernel
theorem dX11_forward_27 : decode cX11_forward 27 = .ok (.ifCond .gt 11, 3) := by decide +kernel
theorem dX11_forward_30 : decode cX11_forward 30 = .ok (.aload_n 0, 1) := by decide +kernel
theorem dX11_forward_31 : decode cX11_forward 31 = .ok (.aload_n 3, 1) := by decide +kernel
theorem dX11_forward_32 : decode cX11_forward 32 = .ok (.aload_n 2, 1) := by decide +kernel
theorem dX11_forward_33 : decode cX11_forward 33 = .ok (.iconst 2, 1) := by decide +kernel
theorem dX11_forward_34 : decode cX11_forward 34 = .ok (.invokevirtual 661, 3) := by decide +kernel
theorem dX11_forward_37 : decode cX11_forward 37 = .ok (.return_, 1) := by decide +kernel
theorem dX11_forward_38 : decode cX11_forward 38 = .ok (.aload_n 0, 1) := by decide +kernel
theorem dX11_forward_39 : decode cX11_forward 39 = .ok (.aload_n 3, 1) := by decide +kernel
theorem dX11_forward_40 : decode cX11_forward 40 = .ok (.aload_n 2, 1) := by decide +kernel
theorem dX11_forward_41 : decode cX11_forward 41 = .ok (.getfield 538, 3) := by decide +kernel
theorem dX11_forward_44 : decode cX11_forward 44 = .ok (.invokevirtual 665, 3) := by decide +kernel
theorem dX11_forward_47 : decode cX11_forward 47 = .ok (.istore 4, 2) := by decide +kernel
theorem dX11_forward_49 : decode cX11_forward 49 = .ok (.iload 4, 2) := by decide +kernel
theorem dX11_forward_51 : decode cX11_forward 51 = .ok (.ifCond .ge 11, 3) := by decide +kernel
theorem dX11_forward_54 : decode cX11_forward 54 = .ok (.aload_n 0, 1) := by decide +kernel
theorem dX11_forward_55 : decode cX11_forward 55 = .ok (.aload_n 3, 1) := by decide +kernel
theorem dX11_forward_56 : decode cX11_forward 56 = .ok (.aload_n 2, 1) := by decide +kernel
theorem dX11_forward_57 : decode cX11_forward 57 = .ok (.iconst 1, 1) := by decide +kernel
theorem dX11_forward_58 : decode cX11_forward 58 = .ok (.invokevirtual 661, 3) := by decide +kernel
theorem dX11_forward_61 : decode cX11_forward 61 = .ok (.return_, 1) := by decide +kernel
theorem dX11_forward_62 : decode cX11_forward 62 = .ok (.aload_n 3, 1) := by decide +kernel
theorem dX11_forward_63 : decode cX11_forward 63 = .ok (.getfield 439, 3) := by decide +kernel
theorem dX11_forward_66 : decode cX11_forward 66 = .ok (.iconst 4, 1) := by decide +kernel
theorem dX11_forward_67 : decode cX11_forward 67 = .ok (.dup2, 1) := by decide +kernel
theorem dX11_forward_68 : decode cX11_forward 68 = .ok (.iaload, 1) := by decide +kernel
theorem dX11_forward_69 : decode cX11_forward 69 = .ok (.iconst 1, 1) := by decide +kernel
theorem dX11_forward_70 : decode cX11_forward 70 = .ok (.iadd, 1) := by decide +kernel
theorem dX11_forward_71 : decode cX11_forward 71 = .ok (.iastore, 1) := by decide +kernel
theorem dX11_forward_72 : decode cX11_forward 72 = .ok (.aload_n 0, 1) := by decide +kernel
theorem dX11_forward_73 : decode cX11_forward 73 = .ok (.aload_n 3, 1) := by decide +kernel
theorem dX11_forward_74 : decode cX11_forward 74 = .ok (.getfield 134, 3) := by decide +kernel
theorem dX11_forward_77 : decode cX11_forward 77 = .ok (.iload 4, 2) := by decide +kernel
theorem dX11_forward_79 : decode cX11_forward 79 = .ok (.iconst 3, 1) := by decide +kernel
theorem dX11_forward_80 : decode cX11_forward 80 = .ok (.ishr, 1) := by decide +kernel
theorem dX11_forward_81 : decode cX11_forward 81 = .ok (.aaload, 1) := by decide +kernel
theorem dX11_forward_82 : decode cX11_forward 82 = .ok (.iload 4, 2) := by decide +kernel
theorem dX11_forward_84 : decode cX11_forward 84 = .ok (.bipush 7, 2) := by decide +kernel
theorem dX11_forward_86 : decode cX11_forward 86 = .ok (.iand, 1) := by decide +kernel
theorem dX11_forward_87 : decode cX11_forward 87 = .ok (.aload_n 2, 1) := by decide +kernel
theorem dX11_forward_88 : decode cX11_forward 88 = .ok (.invokevirtual 669, 3) := by decide +kernel
theorem dX11_forward_91 : decode cX11_forward 91 = .ok (.return_, 1) := by decide +kernel
theorem dX11_sendOff_0 : decode cX11_sendOff 0 = .ok (.aload_n 1, 1) := by decide +kernel
theorem dX11_sendOff_1 : decode cX11_sendOff 1 = .ok (.getfield 109, 3) := by decide +kernel
theorem dX11_sendOff_4 : decode cX11_sendOff 4 = .ok (.ifCond .eq 15, 3) := by decide +kernel
theorem dX11_sendOff_7 : decode cX11_sendOff 7 = .ok (.aload_n 0, 1) := by decide +kernel
theorem dX11_sendOff_8 : decode cX11_sendOff 8 = .ok (.aload_n 1, 1) := by decide +kernel
theorem dX11_sendOff_9 : decode cX11_sendOff 9 = .ok (.aload_n 2, 1) := by decide +kernel
theorem dX11_sendOff_10 : decode cX11_sendOff 10 = .ok (.getfield 538, 3) := by decide +kernel
theorem dX11_sendOff_13 : decode cX11_sendOff 13 = .ok (.invokevirtual 665, 3) := by decide +kernel
theorem dX11_sendOff_16 : decode cX11_sendOff 16 = .ok (.goto 12, 3) := by decide +kernel
theorem dX11_sendOff_19 : decode cX11_sendOff 19 = .ok (.aload_n 0, 1) := by decide +kernel
theorem dX11_sendOff_20 : decode cX11_sendOff 20 = .ok (.aload_n 1, 1) := by decide +kernel
theorem dX11_sendOff_21 : decode cX11_sendOff 21 = .ok (.aload_n 2, 1) := by decide +kernel
theorem dX11_sendOff_22 : decode cX11_sendOff 22 = .ok (.getfield 538, 3) := by decide +kernel
theorem dX11_sendOff_25 : decode cX11_sendOff 25 = .ok (.invokevirtual 672, 3) := by decide +kernel
theorem dX11_sendOff_28 : decode cX11_sendOff 28 = .ok (.istore_n 3, 1) := by decide +kernel
theorem dX11_sendOff_29 : decode cX11_sendOff 29 = .ok (.iload_n 3, 1) := by decide +kernel
theorem dX11_sendOff_30 : decode cX11_sendOff 30 = .ok (.ifCond .ge 13, 3) := by decide +kernel
theorem dX11_sendOff_33 : decode cX11_sendOff 33 = .ok (.aload_n 0, 1) := by decide +kernel
theorem dX11_sendOff_34 : decode cX11_sendOff 34 = .ok (.aload_n 1, 1) := by decide +kernel
theorem dX11_sendOff_35 : decode cX11_sendOff 35 = .ok (.aload_n 2, 1) := by decide +kernel
theorem dX11_sendOff_36 : decode cX11_sendOff 36 = .ok (.iconst 1, 1) := by decide +kernel
theorem dX11_sendOff_37 : decode cX11_sendOff 37 = .ok (.invokevirtual 661, 3) := by decide +kernel
theorem dX11_sendOff_40 : decode cX11_sendOff 40 = .ok (.goto 20, 3) := by decide +kernel
theorem dX11_sendOff_43 : decode cX11_sendOff 43 = .ok (.aload_n 0, 1) := by decide +kernel
theorem dX11_sendOff_44 : decode cX11_sendOff 44 = .ok (.aload_n 1, 1) := by decide +kernel
theorem dX11_sendOff_45 : decode cX11_sendOff 45 = .ok (.getfield 134, 3) := by decide +kernel
theorem dX11_sendOff_48 : decode cX11_sendOff 48 = .ok (.iload_n 3, 1) := by decide +kernel
theorem dX11_sendOff_49 : decode cX11_sendOff 49 = .ok (.iconst 3, 1) := by decide +kernel
theorem dX11_sendOff_50 : decode cX11_sendOff 50 = .ok (.ishr, 1) := by decide +kernel
theorem dX11_sendOff_51 : decode cX11_sendOff 51 = .ok (.aaload, 1) := by decide +kernel
theorem dX11_sendOff_52 : decode cX11_sendOff 52 = .ok (.iload_n 3, 1) := by decide +kernel
theorem dX11_sendOff_53 : decode cX11_sendOff 53 = .ok (.bipush 7, 2) := by decide +kernel
theorem dX11_sendOff_55 : decode cX11_sendOff 55 = .ok (.iand, 1) := by decide +kernel
theorem dX11_sendOff_56 : decode cX11_sendOff 56 = .ok (.aload_n 2, 1) := by decide +kernel
theorem dX11_sendOff_57 : decode cX11_sendOff 57 = .ok (.invokevirtual 669, 3) := by decide +kernel
theorem dX11_sendOff_60 : decode cX11_sendOff 60 = .ok (.return_, 1) := by decide +kernel
theorem dX11_routeFromRouter_0 : decode cX11_routeFromRouter 0 = .ok (.aload_n 0, 1) := by decide +kernel
theorem dX11_routeFromRouter_1 : decode cX11_routeFromRouter 1 = .ok (.iload_n 2, 1) := by decide +kernel
theorem dX11_routeFromRouter_2 : decode cX11_routeFromRouter 2 = .ok (.invokevirtual 491, 3) := by decide +kernel
theorem dX11_routeFromRouter_5 : decode cX11_routeFromRouter 5 = .ok (.ifCond .ne 5, 3) := by decide +kernel
theorem dX11_routeFromRouter_8 : decode cX11_routeFromRouter 8 = .ok (.iconst (-1), 1) := by decide +kernel
theorem dX11_routeFromRouter_9 : decode cX11_routeFromRouter 9 = .ok (.ireturn, 1) := by decide +kernel
theorem dX11_routeFromRouter_10 : decode cX11_routeFromRouter 10 = .ok (.iload_n 2, 1) := by decide +kernel
theorem dX11_routeFromRouter_11 : decode cX11_routeFromRouter 11 = .ok (.bipush 16, 2) := by decide +kernel
theorem dX11_routeFromRouter_13 : decode cX11_routeFromRouter 13 = .ok (.iushr, 1) := by decide +kernel
theorem dX11_routeFromRouter_14 : decode cX11_routeFromRouter 14 = .ok (.sipush 255, 3) := by decide +kernel
theorem dX11_routeFromRouter_17 : decode cX11_routeFromRouter 17 = .ok (.iand, 1) := by decide +kernel
theorem dX11_routeFromRouter_18 : decode cX11_routeFromRouter 18 = .ok (.istore_n 3, 1) := by decide +kernel
theorem dX11_routeFromRouter_19 : decode cX11_routeFromRouter 19 = .ok (.aload_n 1, 1) := by decide +kernel
theorem dX11_routeFromRouter_20 : decode cX11_routeFromRouter 20 = .ok (.getfield 395, 3) := by decide +kernel
theorem dX11_routeFromRouter_23 : decode cX11_routeFromRouter 23 = .ok (.getfield 399, 3) := by decide +kernel
theorem dX11_routeFromRouter_26 : decode cX11_routeFromRouter 26 = .ok (.astore 4, 2) := by decide +kernel
theorem dX11_routeFromRouter_28 : decode cX11_routeFromRouter 28 = .ok (.aload 4, 2) := by decide +kernel
theorem dX11_routeFromRouter_30 : decode cX11_routeFromRouter 30 = .ok (.getfield 405, 3) := by decide +kernel
theorem dX11_routeFromRouter_33 : decode cX11_routeFromRouter 33 = .ok (.iload_n 3, 1) := by decide +kernel
theorem dX11_routeFromRouter_34 : decode cX11_routeFromRouter 34 = .ok (.iaload, 1) := by decide +kernel
theorem dX11_routeFromRouter_35 : decode cX11_routeFromRouter 35 = .ok (.iconst (-1), 1) := by decide +kernel
theorem dX11_routeFromRouter_36 : decode cX11_routeFromRouter 36 = .ok (.if_icmp .ne 5, 3) := by decide +kernel
theorem dX11_routeFromRouter_39 : decode cX11_routeFromRouter 39 = .ok (.iconst (-1), 1) := by decide +kernel
theorem dX11_routeFromRouter_40 : decode cX11_routeFromRouter 40 = .ok (.ireturn, 1) := by decide +kernel
theorem dX11_routeFromRouter_41 : decode cX11_routeFromRouter 41 = .ok (.aload_n 1, 1) := by decide +kernel
theorem dX11_routeFromRouter_42 : decode cX11_routeFromRouter 42 = .ok (.aload 4, 2) := by decide +kernel
theorem dX11_routeFromRouter_44 : decode cX11_routeFromRouter 44 = .ok (.getfield 413, 3) := by decide +kernel
theorem dX11_routeFromRouter_47 : decode cX11_routeFromRouter 47 = .ok (.iload_n 3, 1) := by decide +kernel
theorem dX11_routeFromRouter_48 : decode cX11_routeFromRouter 48 = .ok (.iaload, 1) := by decide +kernel
theorem dX11_routeFromRouter_49 : decode cX11_routeFromRouter 49 = .ok (.invokevirtual 118, 3) := by decide +kernel
theorem dX11_routeFromRouter_52 : decode cX11_routeFromRouter 52 = .ok (.astore 5, 2) := by decide +kernel
theorem dX11_routeFromRouter_54 : decode cX11_routeFromRouter 54 = .ok (.aload 5, 2) := by decide +kernel
theorem dX11_routeFromRouter_56 : decode cX11_routeFromRouter 56 = .ok (.ifnonnull 5, 3) := by decide +kernel
theorem dX11_routeFromRouter_59 : decode cX11_routeFromRouter 59 = .ok (.iconst (-1), 1) := by decide +kernel
theorem dX11_routeFromRouter_60 : decode cX11_routeFromRouter 60 = .ok (.ireturn, 1) := by decide +kernel
theorem dX11_routeFromRouter_61 : decode cX11_routeFromRouter 61 = .ok (.aload 4, 2) := by decide +kernel
theorem dX11_routeFromRouter_63 : decode cX11_routeFromRouter 63 = .ok (.getfield 410, 3) := by decide +kernel
theorem dX11_routeFromRouter_66 : decode cX11_routeFromRouter 66 = .ok (.iload_n 3, 1) := by decide +kernel
theorem dX11_routeFromRouter_67 : decode cX11_routeFromRouter 67 = .ok (.iaload, 1) := by decide +kernel
theorem dX11_routeFromRouter_68 : decode cX11_routeFromRouter 68 = .ok (.aload_n 1, 1) := by decide +kernel
theorem dX11_routeFromRouter_69 : decode cX11_routeFromRouter 69 = .ok (.getfield 484, 3) := by decide +kernel
theorem dX11_routeFromRouter_72 : decode cX11_routeFromRouter 72 = .ok (.if_icmp .ne 19, 3) := by decide +kernel
theorem dX11_routeFromRouter_75 : decode cX11_routeFromRouter 75 = .ok (.aload 5, 2) := by decide +kernel
theorem dX11_routeFromRouter_77 : decode cX11_routeFromRouter 77 = .ok (.getfield 494, 3) := by decide +kernel
theorem dX11_routeFromRouter_80 : decode cX11_routeFromRouter 80 = .ok (.bipush 8, 2) := by decide +kernel
theorem dX11_routeFromRouter_82 : decode cX11_routeFromRouter 82 = .ok (.imul, 1) := by decide +kernel
theorem dX11_routeFromRouter_83 : decode cX11_routeFromRouter 83 = .ok (.iload_n 2, 1) := by decide +kernel
theorem dX11_routeFromRouter_84 : decode cX11_routeFromRouter 84 = .ok (.ldc 230, 2) := by decide +kernel
theorem dX11_routeFromRouter_86 : decode cX11_routeFromRouter 86 = .ok (.iand, 1) := by decide +kernel
theorem dX11_routeFromRouter_87 : decode cX11_routeFromRouter 87 = .ok (.iadd, 1) := by decide +kernel
theorem dX11_routeFromRouter_88 : decode cX11_routeFromRouter 88 = .ok (.iconst 1, 1) := by decide +kernel
theorem dX11_routeFromRouter_89 : decode cX11_routeFromRouter 89 = .ok (.isub, 1) := by decide +kernel
theorem dX11_routeFromRouter_90 : decode cX11_routeFromRouter 90 = .ok (.ireturn, 1) := by decide +kernel
theorem dX11_routeFromRouter_91 : decode cX11_routeFromRouter 91 = .ok (.aload_n 0, 1) := by decide +kernel
theorem dX11_routeFromRouter_92 : decode cX11_routeFromRouter 92 = .ok (.aload 4, 2) := by decide +kernel
theorem dX11_routeFromRouter_94 : decode cX11_routeFromRouter 94 = .ok (.getfield 410, 3) := by decide +kernel
theorem dX11_routeFromRouter_97 : decode cX11_routeFromRouter 97 = .ok (.iload_n 3, 1) := by decide +kernel
theorem dX11_routeFromRouter_98 : decode cX11_routeFromRouter 98 = .ok (.iaload, 1) := by decide +kernel
theorem dX11_routeFromRouter_99 : decode cX11_routeFromRouter 99 = .ok (.invokevirtual 144, 3) := by decide +kernel
theorem dX11_routeFromRouter_102 : decode cX11_routeFromRouter 102 = .ok (.astore 6, 2) := by decide +kernel
theorem dX11_routeFromRouter_104 : decode cX11_routeFromRouter 104 = .ok (.aload 6, 2) := by decide +kernel
theorem dX11_routeFromRouter_106 : decode cX11_routeFromRouter 106 = .ok (.ifnonnull 7, 3) := by decide +kernel
theorem dX11_routeFromRouter_109 : decode cX11_routeFromRouter 109 = .ok (.aconst_null, 1) := by decide +kernel
theorem dX11_routeFromRouter_110 : decode cX11_routeFromRouter 110 = .ok (.goto 15, 3) := by decide +kernel
theorem dX11_routeFromRouter_113 : decode cX11_routeFromRouter 113 = .ok (.aload 6, 2) := by decide +kernel
theorem dX11_routeFromRouter_115 : decode cX11_routeFromRouter 115 = .ok (.aload 4, 2) := by decide +kernel
theorem dX11_routeFromRouter_117 : decode cX11_routeFromRouter 117 = .ok (.getfield 413, 3) := by decide +kernel
theorem dX11_routeFromRouter_120 : decode cX11_routeFromRouter 120 = .ok (.iload_n 3, 1) := by decide +kernel
theorem dX11_routeFromRouter_121 : decode cX11_routeFromRouter 121 = .ok (.iaload, 1) := by decide +kernel
theorem dX11_routeFromRouter_122 : decode cX11_routeFromRouter 122 = .ok (.invokevirtual 118, 3) := by decide +kernel
theorem dX11_routeFromRouter_125 : decode cX11_routeFromRouter 125 = .ok (.astore 7, 2) := by decide +kernel
theorem dX11_routeFromRouter_127 : decode cX11_routeFromRouter 127 = .ok (.aload 7, 2) := by decide +kernel
theorem dX11_routeFromRouter_129 : decode cX11_routeFromRouter 129 = .ok (.ifnonnull 7, 3) := by decide +kernel
theorem dX11_routeFromRouter_132 : decode cX11_routeFromRouter 132 = .ok (.iconst (-1), 1) := by decide +kernel
theorem dX11_routeFromRouter_133 : decode cX11_routeFromRouter 133 = .ok (.goto 17, 3) := by decide +kernel
theorem dX11_routeFromRouter_136 : decode cX11_routeFromRouter 136 = .ok (.aload 5, 2) := by decide +kernel
theorem dX11_routeFromRouter_138 : decode cX11_routeFromRouter 138 = .ok (.getfield 494, 3) := by decide +kernel
theorem dX11_routeFromRouter_141 : decode cX11_routeFromRouter 141 = .ok (.bipush 8, 2) := by decide +kernel
theorem dX11_routeFromRouter_143 : decode cX11_routeFromRouter 143 = .ok (.imul, 1) := by decide +kernel
theorem dX11_routeFromRouter_144 : decode cX11_routeFromRouter 144 = .ok (.aload 7, 2) := by decide +kernel
theorem dX11_routeFromRouter_146 : decode cX11_routeFromRouter 146 = .ok (.getfield 519, 3) := by decide +kernel
theorem dX11_routeFromRouter_149 : decode cX11_routeFromRouter 149 = .ok (.iadd, 1) := by decide +kernel
theorem dX11_routeFromRouter_150 : decode cX11_routeFromRouter 150 = .ok (.ireturn, 1) := by decide +kernel
theorem dX11_routeFromHost_0 : decode cX11_routeFromHost 0 = .ok (.aload_n 1, 1) := by decide +kernel
theorem dX11_routeFromHost_1 : decode cX11_routeFromHost 1 = .ok (.getfield 134, 3) := by decide +kernel
theorem dX11_routeFromHost_4 : decode cX11_routeFromHost 4 = .ok (.iconst 0, 1) := by decide +kernel
theorem dX11_routeFromHost_5 : decode cX11_routeFromHost 5 = .ok (.aaload, 1) := by decide +kernel
theorem dX11_routeFromHost_6 : decode cX11_routeFromHost 6 = .ok (.astore_n 3, 1) := by decide +kernel
theorem dX11_routeFromHost_7 : decode cX11_routeFromHost 7 = .ok (.aload_n 3, 1) := by decide +kernel
theorem dX11_routeFromHost_8 : decode cX11_routeFromHost 8 = .ok (.ifnonnull 5, 3) := by decide +kernel
theorem dX11_routeFromHost_11 : decode cX11_routeFromHost 11 = .ok (.iconst (-1), 1) := by decide +kernel
theorem dX11_routeFromHost_12 : decode cX11_routeFromHost 12 = .ok (.ireturn, 1) := by decide +kernel
theorem dX11_routeFromHost_13 : decode cX11_routeFromHost 13 = .ok (.iload_n 2, 1) := by decide +kernel
theorem dX11_routeFromHost_14 : decode cX11_routeFromHost 14 = .ok (.bipush 16, 2) := by decide +kernel
theorem dX11_routeFromHost_16 : decode cX11_routeFromHost 16 = .ok (.iushr, 1) := by decide +kernel
theorem dX11_routeFromHost_17 : decode cX11_routeFromHost 17 = .ok (.aload_n 3, 1) := by decide +kernel
theorem dX11_routeFromHost_18 : decode cX11_routeFromHost 18 = .ok (.getfield 141, 3) := by decide +kernel
theorem dX11_routeFromHost_21 : decode cX11_routeFromHost 21 = .ok (.bipush 16, 2) := by decide +kernel
theorem dX11_routeFromHost_23 : decode cX11_routeFromHost 23 = .ok (.iushr, 1) := by decide +kernel
theorem dX11_routeFromHost_24 : decode cX11_routeFromHost 24 = .ok (.if_icmp .eq 11, 3) := by decide +kernel
theorem dX11_routeFromHost_27 : decode cX11_routeFromHost 27 = .ok (.aload_n 3, 1) := by decide +kernel
theorem dX11_routeFromHost_28 : decode cX11_routeFromHost 28 = .ok (.getfield 261, 3) := by decide +kernel
theorem dX11_routeFromHost_31 : decode cX11_routeFromHost 31 = .ok (.invokevirtual 675, 3) := by decide +kernel
theorem dX11_routeFromHost_34 : decode cX11_routeFromHost 34 = .ok (.ireturn, 1) := by decide +kernel
theorem dX11_routeFromHost_35 : decode cX11_routeFromHost 35 = .ok (.aload_n 0, 1) := by decide +kernel
theorem dX11_routeFromHost_36 : decode cX11_routeFromHost 36 = .ok (.iload_n 2, 1) := by decide +kernel
theorem dX11_routeFromHost_37 : decode cX11_routeFromHost 37 = .ok (.invokevirtual 491, 3) := by decide +kernel
theorem dX11_routeFromHost_40 : decode cX11_routeFromHost 40 = .ok (.ifCond .eq 12, 3) := by decide +kernel
theorem dX11_routeFromHost_43 : decode cX11_routeFromHost 43 = .ok (.iload_n 2, 1) := by decide +kernel
theorem dX11_routeFromHost_44 : decode cX11_routeFromHost 44 = .ok (.ldc 230, 2) := by decide +kernel
theorem dX11_routeFromHost_46 : decode cX11_routeFromHost 46 = .ok (.iand, 1) := by decide +kernel
theorem dX11_routeFromHost_47 : decode cX11_routeFromHost 47 = .ok (.iconst 1, 1) := by decide +kernel
theorem dX11_routeFromHost_48 : decode cX11_routeFromHost 48 = .ok (.isub, 1) := by decide +kernel
theorem dX11_routeFromHost_49 : decode cX11_routeFromHost 49 = .ok (.goto 4, 3) := by decide +kernel
theorem dX11_routeFromHost_52 : decode cX11_routeFromHost 52 = .ok (.iconst (-1), 1) := by decide +kernel
theorem dX11_routeFromHost_53 : decode cX11_routeFromHost 53 = .ok (.ireturn, 1) := by decide +kernel
theorem dX11_comeBack_0 : decode cX11_comeBack 0 = .ok (.aload_n 2, 1) := by decide +kernel
theorem dX11_comeBack_1 : decode cX11_comeBack 1 = .ok (.getfield 600, 3) := by decide +kernel
theorem dX11_comeBack_4 : decode cX11_comeBack 4 = .ok (.iconst 1, 1) := by decide +kernel
theorem dX11_comeBack_5 : decode cX11_comeBack 5 = .ok (.if_icmp .ne 10, 3) := by decide +kernel
theorem dX11_comeBack_8 : decode cX11_comeBack 8 = .ok (.aload_n 2, 1) := by decide +kernel
theorem dX11_comeBack_9 : decode cX11_comeBack 9 = .ok (.getfield 678, 3) := by decide +kernel
theorem dX11_comeBack_12 : decode cX11_comeBack 12 = .ok (.ifCond .eq 4, 3) := by decide +kernel
theorem dX11_comeBack_15 : decode cX11_comeBack 15 = .ok (.return_, 1) := by decide +kernel
theorem dX11_comeBack_16 : decode cX11_comeBack 16 = .ok (.aload_n 1, 1) := by decide +kernel
theorem dX11_comeBack_17 : decode cX11_comeBack 17 = .ok (.aload_n 2, 1) := by decide +kernel
theorem dX11_comeBack_18 : decode cX11_comeBack 18 = .ok (.getfield 535, 3) := by decide +kernel
theorem dX11_comeBack_21 : decode cX11_comeBack 21 = .ok (.invokevirtual 233, 3) := by decide +kernel
theorem dX11_comeBack_24 : decode cX11_comeBack 24 = .ok (.ifCond .eq 34, 3) := by decide +kernel
theorem dX11_comeBack_27 : decode cX11_comeBack 27 = .ok (.aload_n 1, 1) := by decide +kernel
theorem dX11_comeBack_28 : decode cX11_comeBack 28 = .ok (.getfield 439, 3) := by decide +kernel
theorem dX11_comeBack_31 : decode cX11_comeBack 31 = .ok (.bipush 7, 2) := by decide +kernel
theorem dX11_comeBack_33 : decode cX11_comeBack 33 = .ok (.dup2, 1) := by decide +kernel
theorem dX11_comeBack_34 : decode cX11_comeBack 34 = .ok (.iaload, 1) := by decide +kernel
theorem dX11_comeBack_35 : decode cX11_comeBack 35 = .ok (.iconst 1, 1) := by decide +kernel
theorem dX11_comeBack_36 : decode cX11_comeBack 36 = .ok (.iadd, 1) := by decide +kernel
theorem dX11_comeBack_37 : decode cX11_comeBack 37 = .ok (.iastore, 1) := by decide +kernel
theorem dX11_comeBack_38 : decode cX11_comeBack 38 = .ok (.aload_n 0, 1) := by decide +kernel
theorem dX11_comeBack_39 : decode cX11_comeBack 39 = .ok (.aload_n 1, 1) := by decide +kernel
theorem dX11_comeBack_40 : decode cX11_comeBack 40 = .ok (.aload_n 2, 1) := by decide +kernel
theorem dX11_comeBack_41 : decode cX11_comeBack 41 = .ok (.getfield 538, 3) := by decide +kernel
theorem dX11_comeBack_44 : decode cX11_comeBack 44 = .ok (.aload_n 2, 1) := by decide +kernel
theorem dX11_comeBack_45 : decode cX11_comeBack 45 = .ok (.iconst 0, 1) := by decide +kernel
theorem dX11_comeBack_46 : decode cX11_comeBack 46 = .ok (.invokevirtual 681, 3) := by decide +kernel
theorem dX11_comeBack_49 : decode cX11_comeBack 49 = .ok (.aload_n 2, 1) := by decide +kernel
theorem dX11_comeBack_50 : decode cX11_comeBack 50 = .ok (.iconst 2, 1) := by decide +kernel
theorem dX11_comeBack_51 : decode cX11_comeBack 51 = .ok (.invokevirtual 681, 3) := by decide +kernel
theorem dX11_comeBack_54 : decode cX11_comeBack 54 = .ok (.invokevirtual 684, 3) := by decide +kernel
theorem dX11_comeBack_57 : decode cX11_comeBack 57 = .ok (.return_, 1) := by decide +kernel
theorem dX11_comeBack_58 : decode cX11_comeBack 58 = .ok (.aload_n 2, 1) := by decide +kernel
theorem dX11_comeBack_59 : decode cX11_comeBack 59 = .ok (.getfield 655, 3) := by decide +kernel
theorem dX11_comeBack_62 : decode cX11_comeBack 62 = .ok (.aload_n 1, 1) := by decide +kernel
theorem dX11_comeBack_63 : decode cX11_comeBack 63 = .ok (.getfield 113, 3) := by decide +kernel
theorem dX11_comeBack_66 : decode cX11_comeBack 66 = .ok (.if_icmp .ge 15, 3) := by decide +kernel
theorem dX11_comeBack_69 : decode cX11_comeBack 69 = .ok (.aload_n 1, 1) := by decide +kernel
theorem dX11_comeBack_70 : decode cX11_comeBack 70 = .ok (.getfield 134, 3) := by decide +kernel
theorem dX11_comeBack_73 : decode cX11_comeBack 73 = .ok (.aload_n 2, 1) := by decide +kernel
theorem dX11_comeBack_74 : decode cX11_comeBack 74 = .ok (.getfield 655, 3) := by decide +kernel
theorem dX11_comeBack_77 : decode cX11_comeBack 77 = .ok (.aaload, 1) := by decide +kernel
theorem dX11_comeBack_78 : decode cX11_comeBack 78 = .ok (.goto 4, 3) := by decide +kernel
theorem dX11_comeBack_81 : decode cX11_comeBack 81 = .ok (.aconst_null, 1) := by decide +kernel
theorem dX11_comeBack_82 : decode cX11_comeBack 82 = .ok (.astore 4, 2) := by decide +kernel
theorem dX11_comeBack_84 : decode cX11_comeBack 84 = .ok (.aload 4, 2) := by decide +kernel
theorem dX11_comeBack_86 : decode cX11_comeBack 86 = .ok (.ifnonnull 4, 3) := by decide +kernel
theorem dX11_comeBack_89 : decode cX11_comeBack 89 = .ok (.return_, 1) := by decide +kernel
theorem dX11_comeBack_90 : decode cX11_comeBack 90 = .ok (.aload_n 0, 1) := by decide +kernel
theorem dX11_comeBack_91 : decode cX11_comeBack 91 = .ok (.getfield 31, 3) := by decide +kernel
theorem dX11_comeBack_94 : decode cX11_comeBack 94 = .ok (.iconst 0, 1) := by decide +kernel
theorem dX11_comeBack_95 : decode cX11_comeBack 95 = .ok (.bipush 36, 2) := by decide +kernel
theorem dX11_comeBack_97 : decode cX11_comeBack 97 = .ok (.invokevirtual 533, 3) := by decide +kernel
theorem dX11_comeBack_100 : decode cX11_comeBack 100 = .ok (.aload_n 0, 1) := by decide +kernel
theorem dX11_comeBack_101 : decode cX11_comeBack 101 = .ok (.getfield 31, 3) := by decide +kernel
theorem dX11_comeBack_104 : decode cX11_comeBack 104 = .ok (.aload 4, 2) := by decide +kernel
theorem dX11_comeBack_106 : decode cX11_comeBack 106 = .ok (.getfield 141, 3) := by decide +kernel
theorem dX11_comeBack_109 : decode cX11_comeBack 109 = .ok (.putfield 535, 3) := by decide +kernel
theorem dX11_comeBack_112 : decode cX11_comeBack 112 = .ok (.aload_n 0, 1) := by decide +kernel
theorem dX11_comeBack_113 : decode cX11_comeBack 113 = .ok (.getfield 31, 3) := by decide +kernel
theorem dX11_comeBack_116 : decode cX11_comeBack 116 = .ok (.aload_n 2, 1) := by decide +kernel
theorem dX11_comeBack_117 : decode cX11_comeBack 117 = .ok (.getfield 535, 3) := by decide +kernel
theorem dX11_comeBack_120 : decode cX11_comeBack 120 = .ok (.putfield 538, 3) := by decide +kernel
theorem dX11_comeBack_123 : decode cX11_comeBack 123 = .ok (.aload_n 0, 1) := by decide +kernel
theorem dX11_comeBack_124 : decode cX11_comeBack 124 = .ok (.getfield 31, 3) := by decide +kernel
theorem dX11_comeBack_127 : decode cX11_comeBack 127 = .ok (.aload_n 1, 1) := by decide +kernel
theorem dX11_comeBack_128 : decode cX11_comeBack 128 = .ok (.invokevirtual 688, 3) := by decide +kernel
theorem dX11_comeBack_131 : decode cX11_comeBack 131 = .ok (.putfield 691, 3) := by decide +kernel
theorem dX11_comeBack_134 : decode cX11_comeBack 134 = .ok (.aload_n 0, 1) := by decide +kernel
theorem dX11_comeBack_135 : decode cX11_comeBack 135 = .ok (.getfield 31, 3) := by decide +kernel
theorem dX11_comeBack_138 : decode cX11_comeBack 138 = .ok (.iconst 0, 1) := by decide +kernel
theorem dX11_comeBack_139 : decode cX11_comeBack 139 = .ok (.aload_n 2, 1) := by decide +kernel
theorem dX11_comeBack_140 : decode cX11_comeBack 140 = .ok (.getfield 535, 3) := by decide +kernel
theorem dX11_comeBack_143 : decode cX11_comeBack 143 = .ok (.invokevirtual 692, 3) := by decide +kernel
theorem dX11_comeBack_146 : decode cX11_comeBack 146 = .ok (.aload_n 0, 1) := by decide +kernel
theorem dX11_comeBack_147 : decode cX11_comeBack 147 = .ok (.getfield 31, 3) := by decide +kernel
theorem dX11_comeBack_150 : decode cX11_comeBack 150 = .ok (.iconst 4, 1) := by decide +kernel
theorem dX11_comeBack_151 : decode cX11_comeBack 151 = .ok (.aload_n 2, 1) := by decide +kernel
theorem dX11_comeBack_152 : decode cX11_comeBack 152 = .ok (.getfield 538, 3) := by decide +kernel
theorem dX11_comeBack_155 : decode cX11_comeBack 155 = .ok (.invokevirtual 692, 3) := by decide +kernel
theorem dX11_comeBack_158 : decode cX11_comeBack 158 = .ok (.aload_n 0, 1) := by decide +kernel
theorem dX11_comeBack_159 : decode cX11_comeBack 159 = .ok (.getfield 31, 3) := by decide +kernel
theorem dX11_comeBack_162 : decode cX11_comeBack 162 = .ok (.bipush 8, 2) := by decide +kernel
theorem dX11_comeBack_164 : decode cX11_comeBack 164 = .ok (.aload_n 2, 1) := by decide +kernel
theorem dX11_comeBack_165 : decode cX11_comeBack 165 = .ok (.iconst 0, 1) := by decide +kernel
theorem dX11_comeBack_166 : decode cX11_comeBack 166 = .ok (.invokevirtual 681, 3) := by decide +kernel
theorem dX11_comeBack_169 : decode cX11_comeBack 169 = .ok (.invokevirtual 695, 3) := by decide +kernel
theorem dX11_comeBack_172 : decode cX11_comeBack 172 = .ok (.aload_n 0, 1) := by decide +kernel
theorem dX11_comeBack_173 : decode cX11_comeBack 173 = .ok (.getfield 31, 3) := by decide +kernel
theorem dX11_comeBack_176 : decode cX11_comeBack 176 = .ok (.bipush 10, 2) := by decide +kernel
theorem dX11_comeBack_178 : decode cX11_comeBack 178 = .ok (.aload_n 2, 1) := by decide +kernel
theorem dX11_comeBack_179 : decode cX11_comeBack 179 = .ok (.iconst 2, 1) := by decide +kernel
theorem dX11_comeBack_180 : decode cX11_comeBack 180 = .ok (.invokevirtual 681, 3) := by decide +kernel
theorem dX11_comeBack_183 : decode cX11_comeBack 183 = .ok (.invokevirtual 695, 3) := by decide +kernel
theorem dX11_comeBack_186 : decode cX11_comeBack 186 = .ok (.aload_n 0, 1) := by decide +kernel
theorem dX11_comeBack_187 : decode cX11_comeBack 187 = .ok (.getfield 31, 3) := by decide +kernel
theorem dX11_comeBack_190 : decode cX11_comeBack 190 = .ok (.bipush 12, 2) := by decide +kernel
theorem dX11_comeBack_192 : decode cX11_comeBack 192 = .ok (.iload_n 3, 1) := by decide +kernel
theorem dX11_comeBack_193 : decode cX11_comeBack 193 = .ok (.invokevirtual 695, 3) := by decide +kernel
theorem dX11_comeBack_196 : decode cX11_comeBack 196 = .ok (.aload_n 0, 1) := by decide +kernel
theorem dX11_comeBack_197 : decode cX11_comeBack 197 = .ok (.iconst 1, 1) := by decide +kernel
theorem dX11_comeBack_198 : decode cX11_comeBack 198 = .ok (.putfield 586, 3) := by decide +kernel
theorem dX11_comeBack_201 : decode cX11_comeBack 201 = .ok (.return_, 1) := by decide +kernel
theorem dX11_errorCame_0 : decode cX11_errorCame 0 = .ok (.aload_n 1, 1) := by decide +kernel
theorem dX11_errorCame_1 : decode cX11_errorCame 1 = .ok (.getfield 439, 3) := by decide +kernel
theorem dX11_errorCame_4 : decode cX11_errorCame 4 = .ok (.bipush 7, 2) := by decide +kernel
theorem dX11_errorCame_6 : decode cX11_errorCame 6 = .ok (.dup2, 1) := by decide +kernel
theorem dX11_errorCame_7 : decode cX11_errorCame 7 = .ok (.iaload, 1) := by decide +kernel
theorem dX11_errorCame_8 : decode cX11_errorCame 8 = .ok (.iconst 1, 1) := by decide +kernel
theorem dX11_errorCame_9 : decode cX11_errorCame 9 = .ok (.iadd, 1) := by decide +kernel
theorem dX11_errorCame_10 : decode cX11_errorCame 10 = .ok (.iastore, 1) := by decide +kernel
theorem dX11_errorCame_11 : decode cX11_errorCame 11 = .ok (.aload_n 1, 1) := by decide +kernel
theorem dX11_errorCame_12 : decode cX11_errorCame 12 = .ok (.getfield 109, 3) := by decide +kernel
theorem dX11_errorCame_15 : decode cX11_errorCame 15 = .ok (.ifCond .ne 37, 3) := by decide +kernel
theorem dX11_errorCame_18 : decode cX11_errorCame 18 = .ok (.aload_n 1, 1) := by decide +kernel
theorem dX11_errorCame_19 : decode cX11_errorCame 19 = .ok (.aload_n 2, 1) := by decide +kernel
theorem dX11_errorCame_20 : decode cX11_errorCame 20 = .ok (.iconst 0, 1) := by decide +kernel
theorem dX11_errorCame_21 : decode cX11_errorCame 21 = .ok (.invokevirtual 698, 3) := by decide +kernel
theorem dX11_errorCame_24 : decode cX11_errorCame 24 = .ok (.invokevirtual 233, 3) := by decide +kernel
theorem dX11_errorCame_27 : decode cX11_errorCame 27 = .ok (.ifCond .eq 25, 3) := by decide +kernel
theorem dX11_errorCame_30 : decode cX11_errorCame 30 = .ok (.aload_n 0, 1) := by decide +kernel
theorem dX11_errorCame_31 : decode cX11_errorCame 31 = .ok (.aload_n 1, 1) := by decide +kernel
theorem dX11_errorCame_32 : decode cX11_errorCame 32 = .ok (.aload_n 2, 1) := by decide +kernel
theorem dX11_errorCame_33 : decode cX11_errorCame 33 = .ok (.iconst 4, 1) := by decide +kernel
theorem dX11_errorCame_34 : decode cX11_errorCame 34 = .ok (.invokevirtual 698, 3) := by decide +kernel
theorem dX11_errorCame_37 : decode cX11_errorCame 37 = .ok (.aload_n 2, 1) := by decide +kernel
theorem dX11_errorCame_38 : decode cX11_errorCame 38 = .ok (.bipush 8, 2) := by decide +kernel
theorem dX11_errorCame_40 : decode cX11_errorCame 40 = .ok (.invokevirtual 681, 3) := by decide +kernel
theorem dX11_errorCame_43 : decode cX11_errorCame 43 = .ok (.aload_n 2, 1) := by decide +kernel
theorem dX11_errorCame_44 : decode cX11_errorCame 44 = .ok (.bipush 10, 2) := by decide +kernel
theorem dX11_errorCame_46 : decode cX11_errorCame 46 = .ok (.invokevirtual 681, 3) := by decide +kernel
theorem dX11_errorCame_49 : decode cX11_errorCame 49 = .ok (.invokevirtual 684, 3) := by decide +kernel
theorem dX11_errorCame_52 : decode cX11_errorCame 52 = .ok (.return_, 1) := by decide +kernel
theorem dX11_abortAsking_0 : decode cX11_abortAsking 0 = .ok (.iconst 0, 1) := by decide +kernel
theorem dX11_abortAsking_1 : decode cX11_abortAsking 1 = .ok (.istore 5, 2) := by decide +kernel
theorem dX11_abortAsking_3 : decode cX11_abortAsking 3 = .ok (.iload 5, 2) := by decide +kernel
theorem dX11_abortAsking_5 : decode cX11_abortAsking 5 = .ok (.aload_n 1, 1) := by decide +kernel
theorem dX11_abortAsking_6 : decode cX11_abortAsking 6 = .ok (.getfield 220, 3) := by decide +kernel
theorem dX11_abortAsking_9 : decode cX11_abortAsking 9 = .ok (.arraylength, 1) := by decide +kernel
theorem dX11_abortAsking_10 : decode cX11_abortAsking 10 = .ok (.if_icmp .ge 52, 3) := by decide +kernel
theorem dX11_abortAsking_13 : decode cX11_abortAsking 13 = .ok (.aload_n 1, 1) := by decide +kernel
theorem dX11_abortAsking_14 : decode cX11_abortAsking 14 = .ok (.getfield 220, 3) := by decide +kernel
theorem dX11_abortAsking_17 : decode cX11_abortAsking 17 = .ok (.iload 5, 2) := by decide +kernel
theorem dX11_abortAsking_19 : decode cX11_abortAsking 19 = .ok (.aaload, 1) := by decide +kernel
theorem dX11_abortAsking_20 : decode cX11_abortAsking 20 = .ok (.astore 6, 2) := by decide +kernel
theorem dX11_abortAsking_22 : decode cX11_abortAsking 22 = .ok (.aload 6, 2) := by decide +kernel
theorem dX11_abortAsking_24 : decode cX11_abortAsking 24 = .ok (.iload_n 3, 1) := by decide +kernel
theorem dX11_abortAsking_25 : decode cX11_abortAsking 25 = .ok (.iload_n 2, 1) := by decide +kernel
theorem dX11_abortAsking_26 : decode cX11_abortAsking 26 = .ok (.iload 4, 2) := by decide +kernel
theorem dX11_abortAsking_28 : decode cX11_abortAsking 28 = .ok (.invokevirtual 701, 3) := by decide +kernel
theorem dX11_abortAsking_31 : decode cX11_abortAsking 31 = .ok (.ifCond .eq 25, 3) := by decide +kernel
theorem dX11_abortAsking_34 : decode cX11_abortAsking 34 = .ok (.aload 6, 2) := by decide +kernel
theorem dX11_abortAsking_36 : decode cX11_abortAsking 36 = .ok (.getfield 253, 3) := by decide +kernel
theorem dX11_abortAsking_39 : decode cX11_abortAsking 39 = .ok (.getfield 290, 3) := by decide +kernel
theorem dX11_abortAsking_42 : decode cX11_abortAsking 42 = .ok (.iconst 2, 1) := by decide +kernel
theorem dX11_abortAsking_43 : decode cX11_abortAsking 43 = .ok (.if_icmp .ne 13, 3) := by decide +kernel
theorem dX11_abortAsking_46 : decode cX11_abortAsking 46 = .ok (.aload 6, 2) := by decide +kernel
theorem dX11_abortAsking_48 : decode cX11_abortAsking 48 = .ok (.getfield 253, 3) := by decide +kernel
theorem dX11_abortAsking_51 : decode cX11_abortAsking 51 = .ok (.bipush 11, 2) := by decide +kernel
theorem dX11_abortAsking_53 : decode cX11_abortAsking 53 = .ok (.invokevirtual 705, 3) := by decide +kernel
theorem dX11_abortAsking_56 : decode cX11_abortAsking 56 = .ok (.iinc 5 1, 3) := by decide +kernel
theorem dX11_abortAsking_59 : decode cX11_abortAsking 59 = .ok (.goto (-56), 3) := by decide +kernel
theorem dX11_abortAsking_62 : decode cX11_abortAsking 62 = .ok (.return_, 1) := by decide +kernel
theorem dX11_doAskings_0 : decode cX11_doAskings 0 = .ok (.iconst 0, 1) := by decide +kernel
theorem dX11_doAskings_1 : decode cX11_doAskings 1 = .ok (.istore_n 2, 1) := by decide +kernel
theorem dX11_doAskings_2 : decode cX11_doAskings 2 = .ok (.iload_n 2, 1) := by decide +kernel
theorem dX11_doAskings_3 : decode cX11_doAskings 3 = .ok (.aload_n 1, 1) := by decide +kernel
theorem dX11_doAskings_4 : decode cX11_doAskings 4 = .ok (.getfield 113, 3) := by decide +kernel
theorem dX11_doAskings_7 : decode cX11_doAskings 7 = .ok (.if_icmp .ge 196, 3) := by decide +kernel
theorem dX11_doAskings_10 : decode cX11_doAskings 10 = .ok (.aload_n 1, 1) := by decide +kernel
theorem dX11_doAskings_11 : decode cX11_doAskings 11 = .ok (.getfield 134, 3) := by decide +kernel
theorem dX11_doAskings_14 : decode cX11_doAskings 14 = .ok (.iload_n 2, 1) := by decide +kernel
theorem dX11_doAskings_15 : decode cX11_doAskings 15 = .ok (.aaload, 1) := by decide +kernel
theorem dX11_doAskings_16 : decode cX11_doAskings 16 = .ok (.astore_n 3, 1) := by decide +kernel
theorem dX11_doAskings_17 : decode cX11_doAskings 17 = .ok (.aload_n 3, 1) := by decide +kernel
theorem dX11_doAskings_18 : decode cX11_doAskings 18 = .ok (.invokevirtual 708, 3) := by decide +kernel
theorem dX11_doAskings_21 : decode cX11_doAskings 21 = .ok (.istore 4, 2) := by decide +kernel
theorem dX11_doAskings_23 : decode cX11_doAskings 23 = .ok (.iconst 0, 1) := by decide +kernel
theorem dX11_doAskings_24 : decode cX11_doAskings 24 = .ok (.istore 5, 2) := by decide +kernel
theorem dX11_doAskings_26 : decode cX11_doAskings 26 = .ok (.iload 5, 2) := by decide +kernel
theorem dX11_doAskings_28 : decode cX11_doAskings 28 = .ok (.iload 4, 2) := by decide +kernel
theorem dX11_doAskings_30 : decode cX11_doAskings 30 = .ok (.if_icmp .ge 167, 3) := by decide +kernel
theorem dX11_doAskings_33 : decode cX11_doAskings 33 = .ok (.aload_n 3, 1) := by decide +kernel
theorem dX11_doAskings_34 : decode cX11_doAskings 34 = .ok (.getfield 711, 3) := by decide +kernel
theorem dX11_doAskings_37 : decode cX11_doAskings 37 = .ok (.iload 5, 2) := by decide +kernel
theorem dX11_doAskings_39 : decode cX11_doAskings 39 = .ok (.iaload, 1) := by decide +kernel
theorem dX11_doAskings_40 : decode cX11_doAskings 40 = .ok (.istore 6, 2) := by decide +kernel
theorem dX11_doAskings_42 : decode cX11_doAskings 42 = .ok (.aload_n 3, 1) := by decide +kernel
theorem dX11_doAskings_43 : decode cX11_doAskings 43 = .ok (.iload 6, 2) := by decide +kernel
theorem dX11_doAskings_45 : decode cX11_doAskings 45 = .ok (.invokevirtual 549, 3) := by decide +kernel
theorem dX11_doAskings_48 : decode cX11_doAskings 48 = .ok (.ifCond .ne 6, 3) := by decide +kernel
theorem dX11_doAskings_51 : decode cX11_doAskings 51 = .ok (.goto 140, 3) := by decide +kernel
theorem dX11_doAskings_54 : decode cX11_doAskings 54 = .ok (.aload_n 0, 1) := by decide +kernel
theorem dX11_doAskings_55 : decode cX11_doAskings 55 = .ok (.getfield 176, 3) := by decide +kernel
theorem dX11_doAskings_58 : decode cX11_doAskings 58 = .ok (.aload_n 3, 1) := by decide +kernel
theorem dX11_doAskings_59 : decode cX11_doAskings 59 = .ok (.getfield 714, 3) := by decide +kernel
theorem dX11_doAskings_62 : decode cX11_doAskings 62 = .ok (.iload 6, 2) := by decide +kernel
theorem dX11_doAskings_64 : decode cX11_doAskings 64 = .ok (.iaload, 1) := by decide +kernel
theorem dX11_doAskings_65 : decode cX11_doAskings 65 = .ok (.isub, 1) := by decide +kernel
theorem dX11_doAskings_66 : decode cX11_doAskings 66 = .ok (.istore 7, 2) := by decide +kernel
theorem dX11_doAskings_68 : decode cX11_doAskings 68 = .ok (.iload 7, 2) := by decide +kernel
theorem dX11_doAskings_70 : decode cX11_doAskings 70 = .ok (.bipush 20, 2) := by decide +kernel
theorem dX11_doAskings_72 : decode cX11_doAskings 72 = .ok (.if_icmp .eq 10, 3) := by decide +kernel
theorem dX11_doAskings_75 : decode cX11_doAskings 75 = .ok (.iload 7, 2) := by decide +kernel
theorem dX11_doAskings_77 : decode cX11_doAskings 77 = .ok (.bipush 40, 2) := by decide +kernel
theorem dX11_doAskings_79 : decode cX11_doAskings 79 = .ok (.if_icmp .ne 19, 3) := by decide +kernel
theorem dX11_doAskings_82 : decode cX11_doAskings 82 = .ok (.aload_n 0, 1) := by decide +kernel
theorem dX11_doAskings_83 : decode cX11_doAskings 83 = .ok (.aload_n 3, 1) := by decide +kernel
theorem dX11_doAskings_84 : decode cX11_doAskings 84 = .ok (.iconst (-1), 1) := by decide +kernel
theorem dX11_doAskings_85 : decode cX11_doAskings 85 = .ok (.iconst 5, 1) := by decide +kernel
theorem dX11_doAskings_86 : decode cX11_doAskings 86 = .ok (.aload_n 3, 1) := by decide +kernel
theorem dX11_doAskings_87 : decode cX11_doAskings 87 = .ok (.getfield 261, 3) := by decide +kernel
theorem dX11_doAskings_90 : decode cX11_doAskings 90 = .ok (.iload 6, 2) := by decide +kernel
theorem dX11_doAskings_92 : decode cX11_doAskings 92 = .ok (.invokevirtual 555, 3) := by decide +kernel
theorem dX11_doAskings_95 : decode cX11_doAskings 95 = .ok (.invokevirtual 558, 3) := by decide +kernel
theorem dX11_doAskings_98 : decode cX11_doAskings 98 = .ok (.iload 7, 2) := by decide +kernel
theorem dX11_doAskings_100 : decode cX11_doAskings 100 = .ok (.sipush 200, 3) := by decide +kernel
theorem dX11_doAskings_103 : decode cX11_doAskings 103 = .ok (.if_icmp .ge 6, 3) := by decide +kernel
theorem dX11_doAskings_106 : decode cX11_doAskings 106 = .ok (.goto 85, 3) := by decide +kernel
theorem dX11_doAskings_109 : decode cX11_doAskings 109 = .ok (.aload_n 3, 1) := by decide +kernel
theorem dX11_doAskings_110 : decode cX11_doAskings 110 = .ok (.iload 6, 2) := by decide +kernel
theorem dX11_doAskings_112 : decode cX11_doAskings 112 = .ok (.invokevirtual 717, 3) := by decide +kernel
theorem dX11_doAskings_115 : decode cX11_doAskings 115 = .ok (.istore 8, 2) := by decide +kernel
theorem dX11_doAskings_117 : decode cX11_doAskings 117 = .ok (.aload_n 3, 1) := by decide +kernel
theorem dX11_doAskings_118 : decode cX11_doAskings 118 = .ok (.iload 6, 2) := by decide +kernel
theorem dX11_doAskings_120 : decode cX11_doAskings 120 = .ok (.invokevirtual 575, 3) := by decide +kernel
theorem dX11_doAskings_123 : decode cX11_doAskings 123 = .ok (.iconst 0, 1) := by decide +kernel
theorem dX11_doAskings_124 : decode cX11_doAskings 124 = .ok (.istore 9, 2) := by decide +kernel
theorem dX11_doAskings_126 : decode cX11_doAskings 126 = .ok (.iload 9, 2) := by decide +kernel
theorem dX11_doAskings_128 : decode cX11_doAskings 128 = .ok (.iload 8, 2) := by decide +kernel
theorem dX11_doAskings_130 : decode cX11_doAskings 130 = .ok (.if_icmp .ge 61, 3) := by decide +kernel
theorem dX11_doAskings_133 : decode cX11_doAskings 133 = .ok (.aload_n 3, 1) := by decide +kernel
theorem dX11_doAskings_134 : decode cX11_doAskings 134 = .ok (.iload 6, 2) := by decide +kernel
theorem dX11_doAskings_136 : decode cX11_doAskings 136 = .ok (.invokevirtual 572, 3) := by decide +kernel
theorem dX11_doAskings_139 : decode cX11_doAskings 139 = .ok (.istore 10, 2) := by decide +kernel
theorem dX11_doAskings_141 : decode cX11_doAskings 141 = .ok (.iload 10, 2) := by decide +kernel
theorem dX11_doAskings_143 : decode cX11_doAskings 143 = .ok (.ifCond .ge 6, 3) := by decide +kernel
theorem dX11_doAskings_146 : decode cX11_doAskings 146 = .ok (.goto 45, 3) := by decide +kernel
theorem dX11_doAskings_149 : decode cX11_doAskings 149 = .ok (.aload_n 0, 1) := by decide +kernel
theorem dX11_doAskings_150 : decode cX11_doAskings 150 = .ok (.aload_n 1, 1) := by decide +kernel
theorem dX11_doAskings_151 : decode cX11_doAskings 151 = .ok (.aload_n 3, 1) := by decide +kernel
theorem dX11_doAskings_152 : decode cX11_doAskings 152 = .ok (.iload 10, 2) := by decide +kernel
theorem dX11_doAskings_154 : decode cX11_doAskings 154 = .ok (.invokevirtual 568, 3) := by decide +kernel
theorem dX11_doAskings_157 : decode cX11_doAskings 157 = .ok (.iconst 1, 1) := by decide +kernel
theorem dX11_doAskings_158 : decode cX11_doAskings 158 = .ok (.invokevirtual 661, 3) := by decide +kernel
theorem dX11_doAskings_161 : decode cX11_doAskings 161 = .ok (.aload_n 0, 1) := by decide +kernel
theorem dX11_doAskings_162 : decode cX11_doAskings 162 = .ok (.getfield 586, 3) := by decide +kernel
theorem dX11_doAskings_165 : decode cX11_doAskings 165 = .ok (.ifCond .ne 6, 3) := by decide +kernel
theorem dX11_doAskings_168 : decode cX11_doAskings 168 = .ok (.goto 17, 3) := by decide +kernel
theorem dX11_doAskings_171 : decode cX11_doAskings 171 = .ok (.aload_n 0, 1) := by decide +kernel
theorem dX11_doAskings_172 : decode cX11_doAskings 172 = .ok (.iconst 0, 1) := by decide +kernel
theorem dX11_doAskings_173 : decode cX11_doAskings 173 = .ok (.putfield 586, 3) := by decide +kernel
theorem dX11_doAskings_176 : decode cX11_doAskings 176 = .ok (.aload_n 0, 1) := by decide +kernel
theorem dX11_doAskings_177 : decode cX11_doAskings 177 = .ok (.aload_n 1, 1) := by decide +kernel
theorem dX11_doAskings_178 : decode cX11_doAskings 178 = .ok (.aload_n 0, 1) := by decide +kernel
theorem dX11_doAskings_179 : decode cX11_doAskings 179 = .ok (.getfield 31, 3) := by decide +kernel
theorem dX11_doAskings_182 : decode cX11_doAskings 182 = .ok (.invokevirtual 589, 3) := by decide +kernel
theorem dX11_doAskings_185 : decode cX11_doAskings 185 = .ok (.iinc 9 1, 3) := by decide +kernel
theorem dX11_doAskings_188 : decode cX11_doAskings 188 = .ok (.goto (-62), 3) := by decide +kernel
theorem dX11_doAskings_191 : decode cX11_doAskings 191 = .ok (.iinc 5 1, 3) := by decide +kernel
theorem dX11_doAskings_194 : decode cX11_doAskings 194 = .ok (.goto (-168), 3) := by decide +kernel
theorem dX11_doAskings_197 : decode cX11_doAskings 197 = .ok (.iinc 2 1, 3) := by decide +kernel
theorem dX11_doAskings_200 : decode cX11_doAskings 200 = .ok (.goto (-198), 3) := by decide +kernel
theorem dX11_doAskings_203 : decode cX11_doAskings 203 = .ok (.return_, 1) := by decide +kernel
theorem dX11_doRouter_0 : decode cX11_doRouter 0 = .ok (.aload_n 1, 1) := by decide +kernel
theorem dX11_doRouter_1 : decode cX11_doRouter 1 = .ok (.getfield 395, 3) := by decide +kernel
theorem dX11_doRouter_4 : decode cX11_doRouter 4 = .ok (.astore_n 2, 1) := by decide +kernel
theorem dX11_doRouter_5 : decode cX11_doRouter 5 = .ok (.aload_n 2, 1) := by decide +kernel
theorem dX11_doRouter_6 : decode cX11_doRouter 6 = .ok (.getfield 399, 3) := by decide +kernel
theorem dX11_doRouter_9 : decode cX11_doRouter 9 = .ok (.astore_n 3, 1) := by decide +kernel
theorem dX11_doRouter_10 : decode cX11_doRouter 10 = .ok (.aload_n 2, 1) := by decide +kernel
theorem dX11_doRouter_11 : decode cX11_doRouter 11 = .ok (.getfield 720, 3) := by decide +kernel
theorem dX11_doRouter_14 : decode cX11_doRouter 14 = .ok (.aload_n 0, 1) := by decide +kernel
theorem dX11_doRouter_15 : decode cX11_doRouter 15 = .ok (.getfield 498, 3) := by decide +kernel
theorem dX11_doRouter_18 : decode cX11_doRouter 18 = .ok (.if_icmp .eq 21, 3) := by decide +kernel
theorem dX11_doRouter_21 : decode cX11_doRouter 21 = .ok (.aload_n 2, 1) := by decide +kernel
theorem dX11_doRouter_22 : decode cX11_doRouter 22 = .ok (.aload_n 0, 1) := by decide +kernel
theorem dX11_doRouter_23 : decode cX11_doRouter 23 = .ok (.getfield 498, 3) := by decide +kernel
theorem dX11_doRouter_26 : decode cX11_doRouter 26 = .ok (.putfield 720, 3) := by decide +kernel
theorem dX11_doRouter_29 : decode cX11_doRouter 29 = .ok (.aload_n 2, 1) := by decide +kernel
theorem dX11_doRouter_30 : decode cX11_doRouter 30 = .ok (.iconst 1, 1) := by decide +kernel
theorem dX11_doRouter_31 : decode cX11_doRouter 31 = .ok (.putfield 723, 3) := by decide +kernel
theorem dX11_doRouter_34 : decode cX11_doRouter 34 = .ok (.aload_n 3, 1) := by decide +kernel
theorem dX11_doRouter_35 : decode cX11_doRouter 35 = .ok (.iconst 1, 1) := by decide +kernel
theorem dX11_doRouter_36 : decode cX11_doRouter 36 = .ok (.putfield 726, 3) := by decide +kernel
theorem dX11_doRouter_39 : decode cX11_doRouter 39 = .ok (.aload_n 0, 1) := by decide +kernel
theorem dX11_doRouter_40 : decode cX11_doRouter 40 = .ok (.aload_n 1, 1) := by decide +kernel
theorem dX11_doRouter_41 : decode cX11_doRouter 41 = .ok (.invokevirtual 729, 3) := by decide +kernel
theorem dX11_doRouter_44 : decode cX11_doRouter 44 = .ok (.iconst 0, 1) := by decide +kernel
theorem dX11_doRouter_45 : decode cX11_doRouter 45 = .ok (.istore 4, 2) := by decide +kernel
theorem dX11_doRouter_47 : decode cX11_doRouter 47 = .ok (.iload 4, 2) := by decide +kernel
theorem dX11_doRouter_49 : decode cX11_doRouter 49 = .ok (.bipush 16, 2) := by decide +kernel
theorem dX11_doRouter_51 : decode cX11_doRouter 51 = .ok (.if_icmp .ge 52, 3) := by decide +kernel
theorem dX11_doRouter_54 : decode cX11_doRouter 54 = .ok (.aload_n 3, 1) := by decide +kernel
theorem dX11_doRouter_55 : decode cX11_doRouter 55 = .ok (.getfield 426, 3) := by decide +kernel
theorem dX11_doRouter_58 : decode cX11_doRouter 58 = .ok (.iload 4, 2) := by decide +kernel
theorem dX11_doRouter_60 : decode cX11_doRouter 60 = .ok (.iaload, 1) := by decide +kernel
theorem dX11_doRouter_61 : decode cX11_doRouter 61 = .ok (.ifCond .eq 36, 3) := by decide +kernel
theorem dX11_doRouter_64 : decode cX11_doRouter 64 = .ok (.aload_n 0, 1) := by decide +kernel
theorem dX11_doRouter_65 : decode cX11_doRouter 65 = .ok (.getfield 176, 3) := by decide +kernel
theorem dX11_doRouter_68 : decode cX11_doRouter 68 = .ok (.aload_n 3, 1) := by decide +kernel
theorem dX11_doRouter_69 : decode cX11_doRouter 69 = .ok (.getfield 732, 3) := by decide +kernel
theorem dX11_doRouter_72 : decode cX11_doRouter 72 = .ok (.iload 4, 2) := by decide +kernel
theorem dX11_doRouter_74 : decode cX11_doRouter 74 = .ok (.iaload, 1) := by decide +kernel
theorem dX11_doRouter_75 : decode cX11_doRouter 75 = .ok (.isub, 1) := by decide +kernel
theorem dX11_doRouter_76 : decode cX11_doRouter 76 = .ok (.sipush 5000, 3) := by decide +kernel
theorem dX11_doRouter_79 : decode cX11_doRouter 79 = .ok (.if_icmp .ge 6, 3) := by decide +kernel
theorem dX11_doRouter_82 : decode cX11_doRouter 82 = .ok (.goto 15, 3) := by decide +kernel
theorem dX11_doRouter_85 : decode cX11_doRouter 85 = .ok (.aload_n 3, 1) := by decide +kernel
theorem dX11_doRouter_86 : decode cX11_doRouter 86 = .ok (.iload 4, 2) := by decide +kernel
theorem dX11_doRouter_88 : decode cX11_doRouter 88 = .ok (.invokevirtual 735, 3) := by decide +kernel
theorem dX11_doRouter_91 : decode cX11_doRouter 91 = .ok (.aload_n 2, 1) := by decide +kernel
theorem dX11_doRouter_92 : decode cX11_doRouter 92 = .ok (.iload 4, 2) := by decide +kernel
theorem dX11_doRouter_94 : decode cX11_doRouter 94 = .ok (.invokevirtual 738, 3) := by decide +kernel
theorem dX11_doRouter_97 : decode cX11_doRouter 97 = .ok (.iinc 4 1, 3) := by decide +kernel
theorem dX11_doRouter_100 : decode cX11_doRouter 100 = .ok (.goto (-53), 3) := by decide +kernel
theorem dX11_doRouter_103 : decode cX11_doRouter 103 = .ok (.aload_n 0, 1) := by decide +kernel
theorem dX11_doRouter_104 : decode cX11_doRouter 104 = .ok (.aload_n 1, 1) := by decide +kernel
theorem dX11_doRouter_105 : decode cX11_doRouter 105 = .ok (.invokevirtual 741, 3) := by decide +kernel
theorem dX11_doRouter_108 : decode cX11_doRouter 108 = .ok (.aload_n 0, 1) := by decide +kernel
theorem dX11_doRouter_109 : decode cX11_doRouter 109 = .ok (.getfield 176, 3) := by decide +kernel
theorem dX11_doRouter_112 : decode cX11_doRouter 112 = .ok (.bipush 20, 2) := by decide +kernel
theorem dX11_doRouter_114 : decode cX11_doRouter 114 = .ok (.irem, 1) := by decide +kernel
theorem dX11_doRouter_115 : decode cX11_doRouter 115 = .ok (.ifCond .ne 8, 3) := by decide +kernel
theorem dX11_doRouter_118 : decode cX11_doRouter 118 = .ok (.aload_n 0, 1) := by decide +kernel
theorem dX11_doRouter_119 : decode cX11_doRouter 119 = .ok (.aload_n 1, 1) := by decide +kernel
theorem dX11_doRouter_120 : decode cX11_doRouter 120 = .ok (.invokevirtual 744, 3) := by decide +kernel
theorem dX11_doRouter_123 : decode cX11_doRouter 123 = .ok (.aload_n 2, 1) := by decide +kernel
theorem dX11_doRouter_124 : decode cX11_doRouter 124 = .ok (.getfield 747, 3) := by decide +kernel
theorem dX11_doRouter_127 : decode cX11_doRouter 127 = .ok (.ifCond .le 8, 3) := by decide +kernel
theorem dX11_doRouter_130 : decode cX11_doRouter 130 = .ok (.aload_n 0, 1) := by decide +kernel
theorem dX11_doRouter_131 : decode cX11_doRouter 131 = .ok (.aload_n 1, 1) := by decide +kernel
theorem dX11_doRouter_132 : decode cX11_doRouter 132 = .ok (.invokevirtual 750, 3) := by decide +kernel
theorem dX11_doRouter_135 : decode cX11_doRouter 135 = .ok (.aload_n 2, 1) := by decide +kernel
theorem dX11_doRouter_136 : decode cX11_doRouter 136 = .ok (.getfield 753, 3) := by decide +kernel
theorem dX11_doRouter_139 : decode cX11_doRouter 139 = .ok (.ifCond .le 8, 3) := by decide +kernel
theorem dX11_doRouter_142 : decode cX11_doRouter 142 = .ok (.aload_n 0, 1) := by decide +kernel
theorem dX11_doRouter_143 : decode cX11_doRouter 143 = .ok (.aload_n 1, 1) := by decide +kernel
theorem dX11_doRouter_144 : decode cX11_doRouter 144 = .ok (.invokevirtual 756, 3) := by decide +kernel
theorem dX11_doRouter_147 : decode cX11_doRouter 147 = .ok (.aload_n 3, 1) := by decide +kernel
theorem dX11_doRouter_148 : decode cX11_doRouter 148 = .ok (.getfield 726, 3) := by decide +kernel
theorem dX11_doRouter_151 : decode cX11_doRouter 151 = .ok (.ifCond .eq 12, 3) := by decide +kernel
theorem dX11_doRouter_154 : decode cX11_doRouter 154 = .ok (.aload_n 3, 1) := by decide +kernel
theorem dX11_doRouter_155 : decode cX11_doRouter 155 = .ok (.aload_n 1, 1) := by decide +kernel
theorem dX11_doRouter_156 : decode cX11_doRouter 156 = .ok (.aload_n 0, 1) := by decide +kernel
theorem dX11_doRouter_157 : decode cX11_doRouter 157 = .ok (.getfield 85, 3) := by decide +kernel
theorem dX11_doRouter_160 : decode cX11_doRouter 160 = .ok (.invokevirtual 759, 3) := by decide +kernel
theorem dX11_doRouter_163 : decode cX11_doRouter 163 = .ok (.return_, 1) := by decide +kernel
theorem dX11_forgetSilent_0 : decode cX11_forgetSilent 0 = .ok (.aload_n 1, 1) := by decide +kernel
theorem dX11_forgetSilent_1 : decode cX11_forgetSilent 1 = .ok (.getfield 395, 3) := by decide +kernel
theorem dX11_forgetSilent_4 : decode cX11_forgetSilent 4 = .ok (.astore_n 2, 1) := by decide +kernel
theorem dX11_forgetSilent_5 : decode cX11_forgetSilent 5 = .ok (.aload_n 2, 1) := by decide +kernel
theorem dX11_forgetSilent_6 : decode cX11_forgetSilent 6 = .ok (.getfield 762, 3) := by decide +kernel
theorem dX11_forgetSilent_9 : decode cX11_forgetSilent 9 = .ok (.iconst 1, 1) := by decide +kernel
theorem dX11_forgetSilent_10 : decode cX11_forgetSilent 10 = .ok (.isub, 1) := by decide +kernel
theorem dX11_forgetSilent_11 : decode cX11_forgetSilent 11 = .ok (.istore_n 3, 1) := by decide +kernel
theorem dX11_forgetSilent_12 : decode cX11_forgetSilent 12 = .ok (.iload_n 3, 1) := by decide +kernel
theorem dX11_forgetSilent_13 : decode cX11_forgetSilent 13 = .ok (.ifCond .lt 62, 3) := by decide +kernel
theorem dX11_forgetSilent_16 : decode cX11_forgetSilent 16 = .ok (.aload_n 2, 1) := by decide +kernel
theorem dX11_forgetSilent_17 : decode cX11_forgetSilent 17 = .ok (.getfield 765, 3) := by decide +kernel
theorem dX11_forgetSilent_20 : decode cX11_forgetSilent 20 = .ok (.iload_n 3, 1) := by decide +kernel
theorem dX11_forgetSilent_21 : decode cX11_forgetSilent 21 = .ok (.iaload, 1) := by decide +kernel
theorem dX11_forgetSilent_22 : decode cX11_forgetSilent 22 = .ok (.istore 4, 2) := by decide +kernel
theorem dX11_forgetSilent_24 : decode cX11_forgetSilent 24 = .ok (.aload_n 1, 1) := by decide +kernel
theorem dX11_forgetSilent_25 : decode cX11_forgetSilent 25 = .ok (.getfield 134, 3) := by decide +kernel
theorem dX11_forgetSilent_28 : decode cX11_forgetSilent 28 = .ok (.iload 4, 2) := by decide +kernel
theorem dX11_forgetSilent_30 : decode cX11_forgetSilent 30 = .ok (.bipush 16, 2) := by decide +kernel
theorem dX11_forgetSilent_32 : decode cX11_forgetSilent 32 = .ok (.idiv, 1) := by decide +kernel
theorem dX11_forgetSilent_33 : decode cX11_forgetSilent 33 = .ok (.aaload, 1) := by decide +kernel
theorem dX11_forgetSilent_34 : decode cX11_forgetSilent 34 = .ok (.astore 5, 2) := by decide +kernel
theorem dX11_forgetSilent_36 : decode cX11_forgetSilent 36 = .ok (.aload 5, 2) := by decide +kernel
theorem dX11_forgetSilent_38 : decode cX11_forgetSilent 38 = .ok (.getfield 261, 3) := by decide +kernel
theorem dX11_forgetSilent_41 : decode cX11_forgetSilent 41 = .ok (.getfield 158, 3) := by decide +kernel
theorem dX11_forgetSilent_44 : decode cX11_forgetSilent 44 = .ok (.ifCond .eq 20, 3) := by decide +kernel
theorem dX11_forgetSilent_47 : decode cX11_forgetSilent 47 = .ok (.aload_n 0, 1) := by decide +kernel
theorem dX11_forgetSilent_48 : decode cX11_forgetSilent 48 = .ok (.getfield 176, 3) := by decide +kernel
theorem dX11_forgetSilent_51 : decode cX11_forgetSilent 51 = .ok (.aload_n 2, 1) := by decide +kernel
theorem dX11_forgetSilent_52 : decode cX11_forgetSilent 52 = .ok (.getfield 768, 3) := by decide +kernel
theorem dX11_forgetSilent_55 : decode cX11_forgetSilent 55 = .ok (.iload 4, 2) := by decide +kernel
theorem dX11_forgetSilent_57 : decode cX11_forgetSilent 57 = .ok (.iaload, 1) := by decide +kernel
theorem dX11_forgetSilent_58 : decode cX11_forgetSilent 58 = .ok (.isub, 1) := by decide +kernel
theorem dX11_forgetSilent_59 : decode cX11_forgetSilent 59 = .ok (.bipush 80, 2) := by decide +kernel
theorem dX11_forgetSilent_61 : decode cX11_forgetSilent 61 = .ok (.if_icmp .lt 8, 3) := by decide +kernel
theorem dX11_forgetSilent_64 : decode cX11_forgetSilent 64 = .ok (.aload_n 2, 1) := by decide +kernel
theorem dX11_forgetSilent_65 : decode cX11_forgetSilent 65 = .ok (.iload_n 3, 1) := by decide +kernel
theorem dX11_forgetSilent_66 : decode cX11_forgetSilent 66 = .ok (.invokevirtual 769, 3) := by decide +kernel
theorem dX11_forgetSilent_69 : decode cX11_forgetSilent 69 = .ok (.iinc 3 (-1), 3) := by decide +kernel
theorem dX11_forgetSilent_72 : decode cX11_forgetSilent 72 = .ok (.goto (-60), 3) := by decide +kernel
theorem dX11_forgetSilent_75 : decode cX11_forgetSilent 75 = .ok (.return_, 1) := by decide +kernel
theorem dX11_makeOwnAdvert_0 : decode cX11_makeOwnAdvert 0 = .ok (.aload_n 1, 1) := by decide +kernel
theorem dX11_makeOwnAdvert_1 : decode cX11_makeOwnAdvert 1 = .ok (.getfield 395, 3) := by decide +kernel
theorem dX11_makeOwnAdvert_4 : decode cX11_makeOwnAdvert 4 = .ok (.astore_n 2, 1) := by decide +kernel
theorem dX11_makeOwnAdvert_5 : decode cX11_makeOwnAdvert 5 = .ok (.aload_n 2, 1) := by decide +kernel
theorem dX11_makeOwnAdvert_6 : decode cX11_makeOwnAdvert 6 = .ok (.getfield 399, 3) := by decide +kernel
theorem dX11_makeOwnAdvert_9 : decode cX11_makeOwnAdvert 9 = .ok (.astore_n 3, 1) := by decide +kernel
theorem dX11_makeOwnAdvert_10 : decode cX11_makeOwnAdvert 10 = .ok (.aload_n 3, 1) := by decide +kernel
theorem dX11_makeOwnAdvert_11 : decode cX11_makeOwnAdvert 11 = .ok (.getfield 426, 3) := by decide +kernel
theorem dX11_makeOwnAdvert_14 : decode cX11_makeOwnAdvert 14 = .ok (.aload_n 1, 1) := by decide +kernel
theorem dX11_makeOwnAdvert_15 : decode cX11_makeOwnAdvert 15 = .ok (.getfield 484, 3) := by decide +kernel
theorem dX11_makeOwnAdvert_18 : decode cX11_makeOwnAdvert 18 = .ok (.iaload, 1) := by decide +kernel
theorem dX11_makeOwnAdvert_19 : decode cX11_makeOwnAdvert 19 = .ok (.istore 4, 2) := by decide +kernel
theorem dX11_makeOwnAdvert_21 : decode cX11_makeOwnAdvert 21 = .ok (.iload 4, 2) := by decide +kernel
theorem dX11_makeOwnAdvert_23 : decode cX11_makeOwnAdvert 23 = .ok (.ifCond .eq 18, 3) := by decide +kernel
theorem dX11_makeOwnAdvert_26 : decode cX11_makeOwnAdvert 26 = .ok (.aload_n 0, 1) := by decide +kernel
theorem dX11_makeOwnAdvert_27 : decode cX11_makeOwnAdvert 27 = .ok (.getfield 176, 3) := by decide +kernel
theorem dX11_makeOwnAdvert_30 : decode cX11_makeOwnAdvert 30 = .ok (.aload_n 3, 1) := by decide +kernel
theorem dX11_makeOwnAdvert_31 : decode cX11_makeOwnAdvert 31 = .ok (.getfield 772, 3) := by decide +kernel
theorem dX11_makeOwnAdvert_34 : decode cX11_makeOwnAdvert 34 = .ok (.bipush 10, 2) := by decide +kernel
theorem dX11_makeOwnAdvert_36 : decode cX11_makeOwnAdvert 36 = .ok (.iadd, 1) := by decide +kernel
theorem dX11_makeOwnAdvert_37 : decode cX11_makeOwnAdvert 37 = .ok (.if_icmp .ge 4, 3) := by decide +kernel
theorem dX11_makeOwnAdvert_40 : decode cX11_makeOwnAdvert 40 = .ok (.return_, 1) := by decide +kernel
theorem dX11_makeOwnAdvert_41 : decode cX11_makeOwnAdvert 41 = .ok (.iload 4, 2) := by decide +kernel
theorem dX11_makeOwnAdvert_43 : decode cX11_makeOwnAdvert 43 = .ok (.ifCond .eq 27, 3) := by decide +kernel
theorem dX11_makeOwnAdvert_46 : decode cX11_makeOwnAdvert 46 = .ok (.aload_n 3, 1) := by decide +kernel
theorem dX11_makeOwnAdvert_47 : decode cX11_makeOwnAdvert 47 = .ok (.getfield 775, 3) := by decide +kernel
theorem dX11_makeOwnAdvert_50 : decode cX11_makeOwnAdvert 50 = .ok (.iload 4, 2) := by decide +kernel
theorem dX11_makeOwnAdvert_52 : decode cX11_makeOwnAdvert 52 = .ok (.if_icmp .gt 18, 3) := by decide +kernel
theorem dX11_makeOwnAdvert_55 : decode cX11_makeOwnAdvert 55 = .ok (.aload_n 0, 1) := by decide +kernel
theorem dX11_makeOwnAdvert_56 : decode cX11_makeOwnAdvert 56 = .ok (.getfield 176, 3) := by decide +kernel
theorem dX11_makeOwnAdvert_59 : decode cX11_makeOwnAdvert 59 = .ok (.aload_n 3, 1) := by decide +kernel
theorem dX11_makeOwnAdvert_60 : decode cX11_makeOwnAdvert 60 = .ok (.getfield 772, 3) := by decide +kernel
theorem dX11_makeOwnAdvert_63 : decode cX11_makeOwnAdvert 63 = .ok (.isub, 1) := by decide +kernel
theorem dX11_makeOwnAdvert_64 : decode cX11_makeOwnAdvert 64 = .ok (.sipush 2000, 3) := by decide +kernel
theorem dX11_makeOwnAdvert_67 : decode cX11_makeOwnAdvert 67 = .ok (.if_icmp .lt 7, 3) := by decide +kernel
theorem dX11_makeOwnAdvert_70 : decode cX11_makeOwnAdvert 70 = .ok (.iconst 1, 1) := by decide +kernel
theorem dX11_makeOwnAdvert_71 : decode cX11_makeOwnAdvert 71 = .ok (.goto 4, 3) := by decide +kernel
theorem dX11_makeOwnAdvert_74 : decode cX11_makeOwnAdvert 74 = .ok (.iconst 0, 1) := by decide +kernel
theorem dX11_makeOwnAdvert_75 : decode cX11_makeOwnAdvert 75 = .ok (.istore 5, 2) := by decide +kernel
theorem dX11_makeOwnAdvert_77 : decode cX11_makeOwnAdvert 77 = .ok (.iload 5, 2) := by decide +kernel
theorem dX11_makeOwnAdvert_79 : decode cX11_makeOwnAdvert 79 = .ok (.ifCond .ne 11, 3) := by decide +kernel
theorem dX11_makeOwnAdvert_82 : decode cX11_makeOwnAdvert 82 = .ok (.aload_n 2, 1) := by decide +kernel
theorem dX11_makeOwnAdvert_83 : decode cX11_makeOwnAdvert 83 = .ok (.getfield 723, 3) := by decide +kernel
theorem dX11_makeOwnAdvert_86 : decode cX11_makeOwnAdvert 86 = .ok (.ifCond .ne 4, 3) := by decide +kernel
theorem dX11_makeOwnAdvert_89 : decode cX11_makeOwnAdvert 89 = .ok (.return_, 1) := by decide +kernel
theorem dX11_makeOwnAdvert_90 : decode cX11_makeOwnAdvert 90 = .ok (.aload_n 2, 1) := by decide +kernel
theorem dX11_makeOwnAdvert_91 : decode cX11_makeOwnAdvert 91 = .ok (.aload_n 1, 1) := by decide +kernel
theorem dX11_makeOwnAdvert_92 : decode cX11_makeOwnAdvert 92 = .ok (.aload_n 0, 1) := by decide +kernel
theorem dX11_makeOwnAdvert_93 : decode cX11_makeOwnAdvert 93 = .ok (.getfield 85, 3) := by decide +kernel
theorem dX11_makeOwnAdvert_96 : decode cX11_makeOwnAdvert 96 = .ok (.invokevirtual 778, 3) := by decide +kernel
theorem dX11_makeOwnAdvert_99 : decode cX11_makeOwnAdvert 99 = .ok (.aload_n 2, 1) := by decide +kernel
theorem dX11_makeOwnAdvert_100 : decode cX11_makeOwnAdvert 100 = .ok (.iconst 0, 1) := by decide +kernel
theorem dX11_makeOwnAdvert_101 : decode cX11_makeOwnAdvert 101 = .ok (.putfield 723, 3) := by decide +kernel
theorem dX11_makeOwnAdvert_104 : decode cX11_makeOwnAdvert 104 = .ok (.iload 5, 2) := by decide +kernel
theorem dX11_makeOwnAdvert_106 : decode cX11_makeOwnAdvert 106 = .ok (.ifCond .ne 15, 3) := by decide +kernel
theorem dX11_makeOwnAdvert_109 : decode cX11_makeOwnAdvert 109 = .ok (.aload_n 3, 1) := by decide +kernel
theorem dX11_makeOwnAdvert_110 : decode cX11_makeOwnAdvert 110 = .ok (.aload_n 1, 1) := by decide +kernel
theorem dX11_makeOwnAdvert_111 : decode cX11_makeOwnAdvert 111 = .ok (.getfield 484, 3) := by decide +kernel
theorem dX11_makeOwnAdvert_114 : decode cX11_makeOwnAdvert 114 = .ok (.invokevirtual 781, 3) := by decide +kernel
theorem dX11_makeOwnAdvert_117 : decode cX11_makeOwnAdvert 117 = .ok (.ifCond .eq 4, 3) := by decide +kernel
theorem dX11_makeOwnAdvert_120 : decode cX11_makeOwnAdvert 120 = .ok (.return_, 1) := by decide +kernel
theorem dX11_makeOwnAdvert_121 : decode cX11_makeOwnAdvert 121 = .ok (.aload_n 3, 1) := by decide +kernel
theorem dX11_makeOwnAdvert_122 : decode cX11_makeOwnAdvert 122 = .ok (.dup, 1) := by decide +kernel
theorem dX11_makeOwnAdvert_123 : decode cX11_makeOwnAdvert 123 = .ok (.getfield 775, 3) := by decide +kernel
theorem dX11_makeOwnAdvert_126 : decode cX11_makeOwnAdvert 126 = .ok (.iconst 1, 1) := by decide +kernel
theorem dX11_makeOwnAdvert_127 : decode cX11_makeOwnAdvert 127 = .ok (.iadd, 1) := by decide +kernel
theorem dX11_makeOwnAdvert_128 : decode cX11_makeOwnAdvert 128 = .ok (.putfield 775, 3) := by decide +kernel
theorem dX11_makeOwnAdvert_131 : decode cX11_makeOwnAdvert 131 = .ok (.aload_n 3, 1) := by decide +kernel
theorem dX11_makeOwnAdvert_132 : decode cX11_makeOwnAdvert 132 = .ok (.aload_n 0, 1) := by decide +kernel
theorem dX11_makeOwnAdvert_133 : decode cX11_makeOwnAdvert 133 = .ok (.getfield 176, 3) := by decide +kernel
theorem dX11_makeOwnAdvert_136 : decode cX11_makeOwnAdvert 136 = .ok (.putfield 772, 3) := by decide +kernel
theorem dX11_makeOwnAdvert_139 : decode cX11_makeOwnAdvert 139 = .ok (.aload_n 3, 1) := by decide +kernel
theorem dX11_makeOwnAdvert_140 : decode cX11_makeOwnAdvert 140 = .ok (.aload_n 1, 1) := by decide +kernel
theorem dX11_makeOwnAdvert_141 : decode cX11_makeOwnAdvert 141 = .ok (.getfield 484, 3) := by decide +kernel
theorem dX11_makeOwnAdvert_144 : decode cX11_makeOwnAdvert 144 = .ok (.aload_n 3, 1) := by decide +kernel
theorem dX11_makeOwnAdvert_145 : decode cX11_makeOwnAdvert 145 = .ok (.getfield 775, 3) := by decide +kernel
theorem dX11_makeOwnAdvert_148 : decode cX11_makeOwnAdvert 148 = .ok (.aload_n 0, 1) := by decide +kernel
theorem dX11_makeOwnAdvert_149 : decode cX11_makeOwnAdvert 149 = .ok (.getfield 176, 3) := by decide +kernel
theorem dX11_makeOwnAdvert_152 : decode cX11_makeOwnAdvert 152 = .ok (.invokevirtual 784, 3) := by decide +kernel
theorem dX11_makeOwnAdvert_155 : decode cX11_makeOwnAdvert 155 = .ok (.aload_n 2, 1) := by decide +kernel
theorem dX11_makeOwnAdvert_156 : decode cX11_makeOwnAdvert 156 = .ok (.aload_n 1, 1) := by decide +kernel
theorem dX11_makeOwnAdvert_157 : decode cX11_makeOwnAdvert 157 = .ok (.getfield 484, 3) := by decide +kernel
theorem dX11_makeOwnAdvert_160 : decode cX11_makeOwnAdvert 160 = .ok (.iconst (-1), 1) := by decide +kernel
theorem dX11_makeOwnAdvert_161 : decode cX11_makeOwnAdvert 161 = .ok (.aload_n 0, 1) := by decide +kernel
theorem dX11_makeOwnAdvert_162 : decode cX11_makeOwnAdvert 162 = .ok (.getfield 176, 3) := by decide +kernel
theorem dX11_makeOwnAdvert_165 : decode cX11_makeOwnAdvert 165 = .ok (.invokevirtual 787, 3) := by decide +kernel
theorem dX11_makeOwnAdvert_168 : decode cX11_makeOwnAdvert 168 = .ok (.return_, 1) := by decide +kernel
theorem dX11_sendGreetings_0 : decode cX11_sendGreetings 0 = .ok (.aload_n 1, 1) := by decide +kernel
theorem dX11_sendGreetings_1 : decode cX11_sendGreetings 1 = .ok (.getfield 395, 3) := by decide +kernel
theorem dX11_sendGreetings_4 : decode cX11_sendGreetings 4 = .ok (.astore_n 2, 1) := by decide +kernel
theorem dX11_sendGreetings_5 : decode cX11_sendGreetings 5 = .ok (.iconst 0, 1) := by decide +kernel
theorem dX11_sendGreetings_6 : decode cX11_sendGreetings 6 = .ok (.istore_n 3, 1) := by decide +kernel
theorem dX11_sendGreetings_7 : decode cX11_sendGreetings 7 = .ok (.iload_n 3, 1) := by decide +kernel
theorem dX11_sendGreetings_8 : decode cX11_sendGreetings 8 = .ok (.aload_n 1, 1) := by decide +kernel
theorem dX11_sendGreetings_9 : decode cX11_sendGreetings 9 = .ok (.getfield 113, 3) := by decide +kernel
theorem dX11_sendGreetings_12 : decode cX11_sendGreetings 12 = .ok (.if_icmp .ge 188, 3) := by decide +kernel
theorem dX11_sendGreetings_15 : decode cX11_sendGreetings 15 = .ok (.aload_n 1, 1) := by decide +kernel
theorem dX11_sendGreetings_16 : decode cX11_sendGreetings 16 = .ok (.getfield 134, 3) := by decide +kernel
theorem dX11_sendGreetings_19 : decode cX11_sendGreetings 19 = .ok (.iload_n 3, 1) := by decide +kernel
theorem dX11_sendGreetings_20 : decode cX11_sendGreetings 20 = .ok (.aaload, 1) := by decide +kernel
theorem dX11_sendGreetings_21 : decode cX11_sendGreetings 21 = .ok (.astore 4, 2) := by decide +kernel
theorem dX11_sendGreetings_23 : decode cX11_sendGreetings 23 = .ok (.aload 4, 2) := by decide +kernel
theorem dX11_sendGreetings_25 : decode cX11_sendGreetings 25 = .ok (.getfield 261, 3) := by decide +kernel
theorem dX11_sendGreetings_28 : decode cX11_sendGreetings 28 = .ok (.getfield 158, 3) := by decide +kernel
theorem dX11_sendGreetings_31 : decode cX11_sendGreetings 31 = .ok (.ifCond .ne 6, 3) := by decide +kernel
theorem dX11_sendGreetings_34 : decode cX11_sendGreetings 34 = .ok (.goto 160, 3) := by decide +kernel
theorem dX11_sendGreetings_37 : decode cX11_sendGreetings 37 = .ok (.aload_n 0, 1) := by decide +kernel
theorem dX11_sendGreetings_38 : decode cX11_sendGreetings 38 = .ok (.getfield 31, 3) := by decide +kernel
theorem dX11_sendGreetings_41 : decode cX11_sendGreetings 41 = .ok (.iconst 2, 1) := by decide +kernel
theorem dX11_sendGreetings_42 : decode cX11_sendGreetings 42 = .ok (.bipush 8, 2) := by decide +kernel
theorem dX11_sendGreetings_44 : decode cX11_sendGreetings 44 = .ok (.invokevirtual 533, 3) := by decide +kernel
theorem dX11_sendGreetings_47 : decode cX11_sendGreetings 47 = .ok (.iconst 0, 1) := by decide +kernel
theorem dX11_sendGreetings_48 : decode cX11_sendGreetings 48 = .ok (.istore 5, 2) := by decide +kernel
theorem dX11_sendGreetings_50 : decode cX11_sendGreetings 50 = .ok (.iconst 0, 1) := by decide +kernel
theorem dX11_sendGreetings_51 : decode cX11_sendGreetings 51 = .ok (.istore 6, 2) := by decide +kernel
theorem dX11_sendGreetings_53 : decode cX11_sendGreetings 53 = .ok (.iload 6, 2) := by decide +kernel
theorem dX11_sendGreetings_55 : decode cX11_sendGreetings 55 = .ok (.aload_n 2, 1) := by decide +kernel
theorem dX11_sendGreetings_56 : decode cX11_sendGreetings 56 = .ok (.getfield 762, 3) := by decide +kernel
theorem dX11_sendGreetings_59 : decode cX11_sendGreetings 59 = .ok (.if_icmp .ge 57, 3) := by decide +kernel
theorem dX11_sendGreetings_62 : decode cX11_sendGreetings 62 = .ok (.aload_n 2, 1) := by decide +kernel
theorem dX11_sendGreetings_63 : decode cX11_sendGreetings 63 = .ok (.getfield 765, 3) := by decide +kernel
theorem dX11_sendGreetings_66 : decode cX11_sendGreetings 66 = .ok (.iload 6, 2) := by decide +kernel
theorem dX11_sendGreetings_68 : decode cX11_sendGreetings 68 = .ok (.iaload, 1) := by decide +kernel
theorem dX11_sendGreetings_69 : decode cX11_sendGreetings 69 = .ok (.bipush 16, 2) := by decide +kernel
theorem dX11_sendGreetings_71 : decode cX11_sendGreetings 71 = .ok (.idiv, 1) := by decide +kernel
theorem dX11_sendGreetings_72 : decode cX11_sendGreetings 72 = .ok (.aload 4, 2) := by decide +kernel
theorem dX11_sendGreetings_74 : decode cX11_sendGreetings 74 = .ok (.getfield 494, 3) := by decide +kernel
theorem dX11_sendGreetings_77 : decode cX11_sendGreetings 77 = .ok (.if_icmp .eq 6, 3) := by decide +kernel
theorem dX11_sendGreetings_80 : decode cX11_sendGreetings 80 = .ok (.goto 30, 3) := by decide +kernel
theorem dX11_sendGreetings_83 : decode cX11_sendGreetings 83 = .ok (.aload_n 0, 1) := by decide +kernel
theorem dX11_sendGreetings_84 : decode cX11_sendGreetings 84 = .ok (.getfield 31, 3) := by decide +kernel
theorem dX11_sendGreetings_87 : decode cX11_sendGreetings 87 = .ok (.bipush 8, 2) := by decide +kernel
theorem dX11_sendGreetings_89 : decode cX11_sendGreetings 89 = .ok (.iconst 2, 1) := by decide +kernel
theorem dX11_sendGreetings_90 : decode cX11_sendGreetings 90 = .ok (.iload 5, 2) := by decide +kernel
theorem dX11_sendGreetings_92 : decode cX11_sendGreetings 92 = .ok (.imul, 1) := by decide +kernel
theorem dX11_sendGreetings_93 : decode cX11_sendGreetings 93 = .ok (.iadd, 1) := by decide +kernel
theorem dX11_sendGreetings_94 : decode cX11_sendGreetings 94 = .ok (.aload_n 2, 1) := by decide +kernel
theorem dX11_sendGreetings_95 : decode cX11_sendGreetings 95 = .ok (.getfield 765, 3) := by decide +kernel
theorem dX11_sendGreetings_98 : decode cX11_sendGreetings 98 = .ok (.iload 6, 2) := by decide +kernel
theorem dX11_sendGreetings_100 : decode cX11_sendGreetings 100 = .ok (.iaload, 1) := by decide +kernel
theorem dX11_sendGreetings_101 : decode cX11_sendGreetings 101 = .ok (.bipush 16, 2) := by decide +kernel
theorem dX11_sendGreetings_103 : decode cX11_sendGreetings 103 = .ok (.irem, 1) := by decide +kernel
theorem dX11_sendGreetings_104 : decode cX11_sendGreetings 104 = .ok (.invokevirtual 695, 3) := by decide +kernel
theorem dX11_sendGreetings_107 : decode cX11_sendGreetings 107 = .ok (.iinc 5 1, 3) := by decide +kernel
theorem dX11_sendGreetings_110 : decode cX11_sendGreetings 110 = .ok (.iinc 6 1, 3) := by decide +kernel
theorem dX11_sendGreetings_113 : decode cX11_sendGreetings 113 = .ok (.goto (-60), 3) := by decide +kernel
theorem dX11_sendGreetings_116 : decode cX11_sendGreetings 116 = .ok (.aload_n 0, 1) := by decide +kernel
theorem dX11_sendGreetings_117 : decode cX11_sendGreetings 117 = .ok (.getfield 31, 3) := by decide +kernel
theorem dX11_sendGreetings_120 : decode cX11_sendGreetings 120 = .ok (.iconst 0, 1) := by decide +kernel
theorem dX11_sendGreetings_121 : decode cX11_sendGreetings 121 = .ok (.aload_n 1, 1) := by decide +kernel
theorem dX11_sendGreetings_122 : decode cX11_sendGreetings 122 = .ok (.getfield 484, 3) := by decide +kernel
theorem dX11_sendGreetings_125 : decode cX11_sendGreetings 125 = .ok (.invokevirtual 695, 3) := by decide +kernel
theorem dX11_sendGreetings_128 : decode cX11_sendGreetings 128 = .ok (.aload_n 0, 1) := by decide +kernel
theorem dX11_sendGreetings_129 : decode cX11_sendGreetings 129 = .ok (.getfield 31, 3) := by decide +kernel
theorem dX11_sendGreetings_132 : decode cX11_sendGreetings 132 = .ok (.iconst 2, 1) := by decide +kernel
theorem dX11_sendGreetings_133 : decode cX11_sendGreetings 133 = .ok (.iload 5, 2) := by decide +kernel
theorem dX11_sendGreetings_135 : decode cX11_sendGreetings 135 = .ok (.invokevirtual 695, 3) := by decide +kernel
theorem dX11_sendGreetings_138 : decode cX11_sendGreetings 138 = .ok (.aload_n 0, 1) := by decide +kernel
theorem dX11_sendGreetings_139 : decode cX11_sendGreetings 139 = .ok (.getfield 31, 3) := by decide +kernel
theorem dX11_sendGreetings_142 : decode cX11_sendGreetings 142 = .ok (.bipush 8, 2) := by decide +kernel
theorem dX11_sendGreetings_144 : decode cX11_sendGreetings 144 = .ok (.iconst 2, 1) := by decide +kernel
theorem dX11_sendGreetings_145 : decode cX11_sendGreetings 145 = .ok (.iload 5, 2) := by decide +kernel
theorem dX11_sendGreetings_147 : decode cX11_sendGreetings 147 = .ok (.imul, 1) := by decide +kernel
theorem dX11_sendGreetings_148 : decode cX11_sendGreetings 148 = .ok (.iadd, 1) := by decide +kernel
theorem dX11_sendGreetings_149 : decode cX11_sendGreetings 149 = .ok (.invokevirtual 790, 3) := by decide +kernel
theorem dX11_sendGreetings_152 : decode cX11_sendGreetings 152 = .ok (.aload_n 0, 1) := by decide +kernel
theorem dX11_sendGreetings_153 : decode cX11_sendGreetings 153 = .ok (.getfield 31, 3) := by decide +kernel
theorem dX11_sendGreetings_156 : decode cX11_sendGreetings 156 = .ok (.aload 4, 2) := by decide +kernel
theorem dX11_sendGreetings_158 : decode cX11_sendGreetings 158 = .ok (.getfield 141, 3) := by decide +kernel
theorem dX11_sendGreetings_161 : decode cX11_sendGreetings 161 = .ok (.putfield 535, 3) := by decide +kernel
theorem dX11_sendGreetings_164 : decode cX11_sendGreetings 164 = .ok (.aload_n 0, 1) := by decide +kernel
theorem dX11_sendGreetings_165 : decode cX11_sendGreetings 165 = .ok (.getfield 31, 3) := by decide +kernel
theorem dX11_sendGreetings_168 : decode cX11_sendGreetings 168 = .ok (.iconst 0, 1) := by decide +kernel
theorem dX11_sendGreetings_169 : decode cX11_sendGreetings 169 = .ok (.putfield 538, 3) := by decide +kernel
theorem dX11_sendGreetings_172 : decode cX11_sendGreetings 172 = .ok (.aload_n 0, 1) := by decide +kernel
theorem dX11_sendGreetings_173 : decode cX11_sendGreetings 173 = .ok (.getfield 31, 3) := by decide +kernel
theorem dX11_sendGreetings_176 : decode cX11_sendGreetings 176 = .ok (.aload_n 1, 1) := by decide +kernel
theorem dX11_sendGreetings_177 : decode cX11_sendGreetings 177 = .ok (.invokevirtual 688, 3) := by decide +kernel
theorem dX11_sendGreetings_180 : decode cX11_sendGreetings 180 = .ok (.putfield 691, 3) := by decide +kernel
theorem dX11_sendGreetings_183 : decode cX11_sendGreetings 183 = .ok (.aload_n 0, 1) := by decide +kernel
theorem dX11_sendGreetings_184 : decode cX11_sendGreetings 184 = .ok (.aload 4, 2) := by decide +kernel
theorem dX11_sendGreetings_186 : decode cX11_sendGreetings 186 = .ok (.iconst (-1), 1) := by decide +kernel
theorem dX11_sendGreetings_187 : decode cX11_sendGreetings 187 = .ok (.aload_n 0, 1) := by decide +kernel
theorem dX11_sendGreetings_188 : decode cX11_sendGreetings 188 = .ok (.getfield 31, 3) := by decide +kernel
theorem dX11_sendGreetings_191 : decode cX11_sendGreetings 191 = .ok (.invokevirtual 545, 3) := by decide +kernel
theorem dX11_sendGreetings_194 : decode cX11_sendGreetings 194 = .ok (.iinc 3 1, 3) := by decide +kernel
theorem dX11_sendGreetings_197 : decode cX11_sendGreetings 197 = .ok (.goto (-190), 3) := by decide +kernel
theorem dX11_sendGreetings_200 : decode cX11_sendGreetings 200 = .ok (.return_, 1) := by decide +kernel
theorem dX11_sendThanks_0 : decode cX11_sendThanks 0 = .ok (.aload_n 1, 1) := by decide +kernel
theorem dX11_sendThanks_1 : decode cX11_sendThanks 1 = .ok (.getfield 395, 3) := by decide +kernel
theorem dX11_sendThanks_4 : decode cX11_sendThanks 4 = .ok (.astore_n 2, 1) := by decide +kernel
theorem dX11_sendThanks_5 : decode cX11_sendThanks 5 = .ok (.iconst 0, 1) := by decide +kernel
theorem dX11_sendThanks_6 : decode cX11_sendThanks 6 = .ok (.istore_n 3, 1) := by decide +kernel
theorem dX11_sendThanks_7 : decode cX11_sendThanks 7 = .ok (.iload_n 3, 1) := by decide +kernel
theorem dX11_sendThanks_8 : decode cX11_sendThanks 8 = .ok (.aload_n 2, 1) := by decide +kernel
theorem dX11_sendThanks_9 : decode cX11_sendThanks 9 = .ok (.getfield 747, 3) := by decide +kernel
theorem dX11_sendThanks_12 : decode cX11_sendThanks 12 = .ok (.if_icmp .ge 92, 3) := by decide +kernel
theorem dX11_sendThanks_15 : decode cX11_sendThanks 15 = .ok (.aload_n 0, 1) := by decide +kernel
theorem dX11_sendThanks_16 : decode cX11_sendThanks 16 = .ok (.getfield 31, 3) := by decide +kernel
theorem dX11_sendThanks_19 : decode cX11_sendThanks 19 = .ok (.iconst 4, 1) := by decide +kernel
theorem dX11_sendThanks_20 : decode cX11_sendThanks 20 = .ok (.bipush 8, 2) := by decide +kernel
theorem dX11_sendThanks_22 : decode cX11_sendThanks 22 = .ok (.invokevirtual 533, 3) := by decide +kernel
theorem dX11_sendThanks_25 : decode cX11_sendThanks 25 = .ok (.aload_n 0, 1) := by decide +kernel
theorem dX11_sendThanks_26 : decode cX11_sendThanks 26 = .ok (.getfield 31, 3) := by decide +kernel
theorem dX11_sendThanks_29 : decode cX11_sendThanks 29 = .ok (.iconst 0, 1) := by decide +kernel
theorem dX11_sendThanks_30 : decode cX11_sendThanks 30 = .ok (.aload_n 2, 1) := by decide +kernel
theorem dX11_sendThanks_31 : decode cX11_sendThanks 31 = .ok (.getfield 793, 3) := by decide +kernel
theorem dX11_sendThanks_34 : decode cX11_sendThanks 34 = .ok (.iload_n 3, 1) := by decide +kernel
theorem dX11_sendThanks_35 : decode cX11_sendThanks 35 = .ok (.iaload, 1) := by decide +kernel
theorem dX11_sendThanks_36 : decode cX11_sendThanks 36 = .ok (.invokevirtual 695, 3) := by decide +kernel
theorem dX11_sendThanks_39 : decode cX11_sendThanks 39 = .ok (.aload_n 0, 1) := by decide +kernel
theorem dX11_sendThanks_40 : decode cX11_sendThanks 40 = .ok (.getfield 31, 3) := by decide +kernel
theorem dX11_sendThanks_43 : decode cX11_sendThanks 43 = .ok (.iconst 2, 1) := by decide +kernel
theorem dX11_sendThanks_44 : decode cX11_sendThanks 44 = .ok (.aload_n 2, 1) := by decide +kernel
theorem dX11_sendThanks_45 : decode cX11_sendThanks 45 = .ok (.getfield 796, 3) := by decide +kernel
theorem dX11_sendThanks_48 : decode cX11_sendThanks 48 = .ok (.iload_n 3, 1) := by decide +kernel
theorem dX11_sendThanks_49 : decode cX11_sendThanks 49 = .ok (.iaload, 1) := by decide +kernel
theorem dX11_sendThanks_50 : decode cX11_sendThanks 50 = .ok (.invokevirtual 692, 3) := by decide +kernel
theorem dX11_sendThanks_53 : decode cX11_sendThanks 53 = .ok (.aload_n 0, 1) := by decide +kernel
theorem dX11_sendThanks_54 : decode cX11_sendThanks 54 = .ok (.aload_n 1, 1) := by decide +kernel
theorem dX11_sendThanks_55 : decode cX11_sendThanks 55 = .ok (.aload_n 2, 1) := by decide +kernel
theorem dX11_sendThanks_56 : decode cX11_sendThanks 56 = .ok (.getfield 799, 3) := by decide +kernel
theorem dX11_sendThanks_59 : decode cX11_sendThanks 59 = .ok (.iload_n 3, 1) := by decide +kernel
theorem dX11_sendThanks_60 : decode cX11_sendThanks 60 = .ok (.iaload, 1) := by decide +kernel
theorem dX11_sendThanks_61 : decode cX11_sendThanks 61 = .ok (.invokevirtual 802, 3) := by decide +kernel
theorem dX11_sendThanks_64 : decode cX11_sendThanks 64 = .ok (.astore 4, 2) := by decide +kernel
theorem dX11_sendThanks_66 : decode cX11_sendThanks 66 = .ok (.aload 4, 2) := by decide +kernel
theorem dX11_sendThanks_68 : decode cX11_sendThanks 68 = .ok (.ifnull 30, 3) := by decide +kernel
theorem dX11_sendThanks_71 : decode cX11_sendThanks 71 = .ok (.aload_n 0, 1) := by decide +kernel
theorem dX11_sendThanks_72 : decode cX11_sendThanks 72 = .ok (.aload_n 1, 1) := by decide +kernel
theorem dX11_sendThanks_73 : decode cX11_sendThanks 73 = .ok (.getfield 134, 3) := by decide +kernel
theorem dX11_sendThanks_76 : decode cX11_sendThanks 76 = .ok (.aload_n 2, 1) := by decide +kernel
theorem dX11_sendThanks_77 : decode cX11_sendThanks 77 = .ok (.getfield 799, 3) := by decide +kernel
theorem dX11_sendThanks_80 : decode cX11_sendThanks 80 = .ok (.iload_n 3, 1) := by decide +kernel
theorem dX11_sendThanks_81 : decode cX11_sendThanks 81 = .ok (.iaload, 1) := by decide +kernel
theorem dX11_sendThanks_82 : decode cX11_sendThanks 82 = .ok (.bipush 16, 2) := by decide +kernel
theorem dX11_sendThanks_84 : decode cX11_sendThanks 84 = .ok (.idiv, 1) := by decide +kernel
theorem dX11_sendThanks_85 : decode cX11_sendThanks 85 = .ok (.aaload, 1) := by decide +kernel
theorem dX11_sendThanks_86 : decode cX11_sendThanks 86 = .ok (.aload 4, 2) := by decide +kernel
theorem dX11_sendThanks_88 : decode cX11_sendThanks 88 = .ok (.getfield 519, 3) := by decide +kernel
theorem dX11_sendThanks_91 : decode cX11_sendThanks 91 = .ok (.aload_n 0, 1) := by decide +kernel
theorem dX11_sendThanks_92 : decode cX11_sendThanks 92 = .ok (.getfield 31, 3) := by decide +kernel
theorem dX11_sendThanks_95 : decode cX11_sendThanks 95 = .ok (.invokevirtual 669, 3) := by decide +kernel
theorem dX11_sendThanks_98 : decode cX11_sendThanks 98 = .ok (.iinc 3 1, 3) := by decide +kernel
theorem dX11_sendThanks_101 : decode cX11_sendThanks 101 = .ok (.goto (-94), 3) := by decide +kernel
theorem dX11_sendThanks_104 : decode cX11_sendThanks 104 = .ok (.aload_n 2, 1) := by decide +kernel
theorem dX11_sendThanks_105 : decode cX11_sendThanks 105 = .ok (.iconst 0, 1) := by decide +kernel
theorem dX11_sendThanks_106 : decode cX11_sendThanks 106 = .ok (.putfield 747, 3) := by decide +kernel
theorem dX11_sendThanks_109 : decode cX11_sendThanks 109 = .ok (.return_, 1) := by decide +kernel
theorem dX11_sendDue_0 : decode cX11_sendDue 0 = .ok (.aload_n 1, 1) := by decide +kernel
theorem dX11_sendDue_1 : decode cX11_sendDue 1 = .ok (.getfield 395, 3) := by decide +kernel
theorem dX11_sendDue_4 : decode cX11_sendDue 4 = .ok (.astore_n 2, 1) := by decide +kernel
theorem dX11_sendDue_5 : decode cX11_sendDue 5 = .ok (.iconst 0, 1) := by decide +kernel
theorem dX11_sendDue_6 : decode cX11_sendDue 6 = .ok (.istore_n 3, 1) := by decide +kernel
theorem dX11_sendDue_7 : decode cX11_sendDue 7 = .ok (.iload_n 3, 1) := by decide +kernel
theorem dX11_sendDue_8 : decode cX11_sendDue 8 = .ok (.aload_n 2, 1) := by decide +kernel
theorem dX11_sendDue_9 : decode cX11_sendDue 9 = .ok (.getfield 762, 3) := by decide +kernel
theorem dX11_sendDue_12 : decode cX11_sendDue 12 = .ok (.if_icmp .ge 127, 3) := by decide +kernel
theorem dX11_sendDue_15 : decode cX11_sendDue 15 = .ok (.aload_n 2, 1) := by decide +kernel
theorem dX11_sendDue_16 : decode cX11_sendDue 16 = .ok (.getfield 765, 3) := by decide +kernel
theorem dX11_sendDue_19 : decode cX11_sendDue 19 = .ok (.iload_n 3, 1) := by decide +kernel
theorem dX11_sendDue_20 : decode cX11_sendDue 20 = .ok (.iaload, 1) := by decide +kernel
theorem dX11_sendDue_21 : decode cX11_sendDue 21 = .ok (.istore 4, 2) := by decide +kernel
theorem dX11_sendDue_23 : decode cX11_sendDue 23 = .ok (.iconst 0, 1) := by decide +kernel
theorem dX11_sendDue_24 : decode cX11_sendDue 24 = .ok (.istore 5, 2) := by decide +kernel
theorem dX11_sendDue_26 : decode cX11_sendDue 26 = .ok (.iload 5, 2) := by decide +kernel
theorem dX11_sendDue_28 : decode cX11_sendDue 28 = .ok (.bipush 16, 2) := by decide +kernel
theorem dX11_sendDue_30 : decode cX11_sendDue 30 = .ok (.if_icmp .ge 103, 3) := by decide +kernel
theorem dX11_sendDue_33 : decode cX11_sendDue 33 = .ok (.aload_n 2, 1) := by decide +kernel
theorem dX11_sendDue_34 : decode cX11_sendDue 34 = .ok (.getfield 806, 3) := by decide +kernel
theorem dX11_sendDue_37 : decode cX11_sendDue 37 = .ok (.iload 4, 2) := by decide +kernel
theorem dX11_sendDue_39 : decode cX11_sendDue 39 = .ok (.aaload, 1) := by decide +kernel
theorem dX11_sendDue_40 : decode cX11_sendDue 40 = .ok (.iload 5, 2) := by decide +kernel
theorem dX11_sendDue_42 : decode cX11_sendDue 42 = .ok (.iaload, 1) := by decide +kernel
theorem dX11_sendDue_43 : decode cX11_sendDue 43 = .ok (.istore 6, 2) := by decide +kernel
theorem dX11_sendDue_45 : decode cX11_sendDue 45 = .ok (.iload 6, 2) := by decide +kernel
theorem dX11_sendDue_47 : decode cX11_sendDue 47 = .ok (.ifCond .eq 80, 3) := by decide +kernel
theorem dX11_sendDue_50 : decode cX11_sendDue 50 = .ok (.iload 6, 2) := by decide +kernel
theorem dX11_sendDue_52 : decode cX11_sendDue 52 = .ok (.aload_n 0, 1) := by decide +kernel
theorem dX11_sendDue_53 : decode cX11_sendDue 53 = .ok (.getfield 176, 3) := by decide +kernel
theorem dX11_sendDue_56 : decode cX11_sendDue 56 = .ok (.if_icmp .le 6, 3) := by decide +kernel
theorem dX11_sendDue_59 : decode cX11_sendDue 59 = .ok (.goto 68, 3) := by decide +kernel
theorem dX11_sendDue_62 : decode cX11_sendDue 62 = .ok (.aload_n 2, 1) := by decide +kernel
theorem dX11_sendDue_63 : decode cX11_sendDue 63 = .ok (.getfield 399, 3) := by decide +kernel
theorem dX11_sendDue_66 : decode cX11_sendDue 66 = .ok (.aload_n 0, 1) := by decide +kernel
theorem dX11_sendDue_67 : decode cX11_sendDue 67 = .ok (.getfield 31, 3) := by decide +kernel
theorem dX11_sendDue_70 : decode cX11_sendDue 70 = .ok (.iload 5, 2) := by decide +kernel
theorem dX11_sendDue_72 : decode cX11_sendDue 72 = .ok (.invokevirtual 810, 3) := by decide +kernel
theorem dX11_sendDue_75 : decode cX11_sendDue 75 = .ok (.aload_n 0, 1) := by decide +kernel
theorem dX11_sendDue_76 : decode cX11_sendDue 76 = .ok (.aload_n 1, 1) := by decide +kernel
theorem dX11_sendDue_77 : decode cX11_sendDue 77 = .ok (.iload 4, 2) := by decide +kernel
theorem dX11_sendDue_79 : decode cX11_sendDue 79 = .ok (.invokevirtual 802, 3) := by decide +kernel
theorem dX11_sendDue_82 : decode cX11_sendDue 82 = .ok (.astore 7, 2) := by decide +kernel
theorem dX11_sendDue_84 : decode cX11_sendDue 84 = .ok (.aload 7, 2) := by decide +kernel
theorem dX11_sendDue_86 : decode cX11_sendDue 86 = .ok (.ifnull 26, 3) := by decide +kernel
theorem dX11_sendDue_89 : decode cX11_sendDue 89 = .ok (.aload_n 0, 1) := by decide +kernel
theorem dX11_sendDue_90 : decode cX11_sendDue 90 = .ok (.aload_n 1, 1) := by decide +kernel
theorem dX11_sendDue_91 : decode cX11_sendDue 91 = .ok (.getfield 134, 3) := by decide +kernel
theorem dX11_sendDue_94 : decode cX11_sendDue 94 = .ok (.iload 4, 2) := by decide +kernel
theorem dX11_sendDue_96 : decode cX11_sendDue 96 = .ok (.bipush 16, 2) := by decide +kernel
theorem dX11_sendDue_98 : decode cX11_sendDue 98 = .ok (.idiv, 1) := by decide +kernel
theorem dX11_sendDue_99 : decode cX11_sendDue 99 = .ok (.aaload, 1) := by decide +kernel
theorem dX11_sendDue_100 : decode cX11_sendDue 100 = .ok (.aload 7, 2) := by decide +kernel
theorem dX11_sendDue_102 : decode cX11_sendDue 102 = .ok (.getfield 519, 3) := by decide +kernel
theorem dX11_sendDue_105 : decode cX11_sendDue 105 = .ok (.aload_n 0, 1) := by decide +kernel
theorem dX11_sendDue_106 : decode cX11_sendDue 106 = .ok (.getfield 31, 3) := by decide +kernel
theorem dX11_sendDue_109 : decode cX11_sendDue 109 = .ok (.invokevirtual 669, 3) := by decide +kernel
theorem dX11_sendDue_112 : decode cX11_sendDue 112 = .ok (.aload_n 2, 1) := by decide +kernel
theorem dX11_sendDue_113 : decode cX11_sendDue 113 = .ok (.iload 4, 2) := by decide +kernel
theorem dX11_sendDue_115 : decode cX11_sendDue 115 = .ok (.iload 5, 2) := by decide +kernel
theorem dX11_sendDue_117 : decode cX11_sendDue 117 = .ok (.aload_n 0, 1) := by decide +kernel
theorem dX11_sendDue_118 : decode cX11_sendDue 118 = .ok (.getfield 176, 3) := by decide +kernel
theorem dX11_sendDue_121 : decode cX11_sendDue 121 = .ok (.bipush 15, 2) := by decide +kernel
theorem dX11_sendDue_123 : decode cX11_sendDue 123 = .ok (.iadd, 1) := by decide +kernel
theorem dX11_sendDue_124 : decode cX11_sendDue 124 = .ok (.invokevirtual 813, 3) := by decide +kernel
theorem dX11_sendDue_127 : decode cX11_sendDue 127 = .ok (.iinc 5 1, 3) := by decide +kernel
theorem dX11_sendDue_130 : decode cX11_sendDue 130 = .ok (.goto (-104), 3) := by decide +kernel
theorem dX11_sendDue_133 : decode cX11_sendDue 133 = .ok (.iinc 3 1, 3) := by decide +kernel
theorem dX11_sendDue_136 : decode cX11_sendDue 136 = .ok (.goto (-129), 3) := by decide +kernel
theorem dX11_sendDue_139 : decode cX11_sendDue 139 = .ok (.return_, 1) := by decide +kernel
theorem dX11_addressToFriend_0 : decode cX11_addressToFriend 0 = .ok (.aload_n 1, 1) := by decide +kernel
theorem dX11_addressToFriend_1 : decode cX11_addressToFriend 1 = .ok (.getfield 134, 3) := by decide +kernel
theorem dX11_addressToFriend_4 : decode cX11_addressToFriend 4 = .ok (.iload_n 2, 1) := by decide +kernel
theorem dX11_addressToFriend_5 : decode cX11_addressToFriend 5 = .ok (.bipush 16, 2) := by decide +kernel
theorem dX11_addressToFriend_7 : decode cX11_addressToFriend 7 = .ok (.idiv, 1) := by decide +kernel
theorem dX11_addressToFriend_8 : decode cX11_addressToFriend 8 = .ok (.aaload, 1) := by decide +kernel
theorem dX11_addressToFriend_9 : decode cX11_addressToFriend 9 = .ok (.astore_n 3, 1) := by decide +kernel
theorem dX11_addressToFriend_10 : decode cX11_addressToFriend 10 = .ok (.aload_n 0, 1) := by decide +kernel
theorem dX11_addressToFriend_11 : decode cX11_addressToFriend 11 = .ok (.getfield 17, 3) := by decide +kernel
theorem dX11_addressToFriend_14 : decode cX11_addressToFriend 14 = .ok (.iload_n 2, 1) := by decide +kernel
theorem dX11_addressToFriend_15 : decode cX11_addressToFriend 15 = .ok (.bipush 16, 2) := by decide +kernel
theorem dX11_addressToFriend_17 : decode cX11_addressToFriend 17 = .ok (.irem, 1) := by decide +kernel
theorem dX11_addressToFriend_18 : decode cX11_addressToFriend 18 = .ok (.aaload, 1) := by decide +kernel
theorem dX11_addressToFriend_19 : decode cX11_addressToFriend 19 = .ok (.aload_n 3, 1) := by decide +kernel
theorem dX11_addressToFriend_20 : decode cX11_addressToFriend 20 = .ok (.getfield 261, 3) := by decide +kernel
theorem dX11_addressToFriend_23 : decode cX11_addressToFriend 23 = .ok (.getfield 478, 3) := by decide +kernel
theorem dX11_addressToFriend_26 : decode cX11_addressToFriend 26 = .ok (.invokevirtual 118, 3) := by decide +kernel
theorem dX11_addressToFriend_29 : decode cX11_addressToFriend 29 = .ok (.astore 4, 2) := by decide +kernel
theorem dX11_addressToFriend_31 : decode cX11_addressToFriend 31 = .ok (.aload 4, 2) := by decide +kernel
theorem dX11_addressToFriend_33 : decode cX11_addressToFriend 33 = .ok (.ifnonnull 5, 3) := by decide +kernel
theorem dX11_addressToFriend_36 : decode cX11_addressToFriend 36 = .ok (.aconst_null, 1) := by decide +kernel
theorem dX11_addressToFriend_37 : decode cX11_addressToFriend 37 = .ok (.areturn, 1) := by decide +kernel
theorem dX11_addressToFriend_38 : decode cX11_addressToFriend 38 = .ok (.aload_n 0, 1) := by decide +kernel
theorem dX11_addressToFriend_39 : decode cX11_addressToFriend 39 = .ok (.getfield 31, 3) := by decide +kernel
theorem dX11_addressToFriend_42 : decode cX11_addressToFriend 42 = .ok (.aload_n 3, 1) := by decide +kernel
theorem dX11_addressToFriend_43 : decode cX11_addressToFriend 43 = .ok (.getfield 141, 3) := by decide +kernel
theorem dX11_addressToFriend_46 : decode cX11_addressToFriend 46 = .ok (.putfield 535, 3) := by decide +kernel
theorem dX11_addressToFriend_49 : decode cX11_addressToFriend 49 = .ok (.aload_n 0, 1) := by decide +kernel
theorem dX11_addressToFriend_50 : decode cX11_addressToFriend 50 = .ok (.getfield 31, 3) := by decide +kernel
theorem dX11_addressToFriend_53 : decode cX11_addressToFriend 53 = .ok (.aload 4, 2) := by decide +kernel
theorem dX11_addressToFriend_55 : decode cX11_addressToFriend 55 = .ok (.getfield 141, 3) := by decide +kernel
theorem dX11_addressToFriend_58 : decode cX11_addressToFriend 58 = .ok (.putfield 538, 3) := by decide +kernel
theorem dX11_addressToFriend_61 : decode cX11_addressToFriend 61 = .ok (.aload_n 0, 1) := by decide +kernel
theorem dX11_addressToFriend_62 : decode cX11_addressToFriend 62 = .ok (.getfield 31, 3) := by decide +kernel
theorem dX11_addressToFriend_65 : decode cX11_addressToFriend 65 = .ok (.aload_n 1, 1) := by decide +kernel
theorem dX11_addressToFriend_66 : decode cX11_addressToFriend 66 = .ok (.invokevirtual 688, 3) := by decide +kernel
theorem dX11_addressToFriend_69 : decode cX11_addressToFriend 69 = .ok (.putfield 691, 3) := by decide +kernel
theorem dX11_addressToFriend_72 : decode cX11_addressToFriend 72 = .ok (.aload 4, 2) := by decide +kernel
theorem dX11_addressToFriend_74 : decode cX11_addressToFriend 74 = .ok (.areturn, 1) := by decide +kernel
theorem dX11_senderKey_0 : decode cX11_senderKey 0 = .ok (.aload_n 0, 1) := by decide +kernel
theorem dX11_senderKey_1 : decode cX11_senderKey 1 = .ok (.aload_n 2, 1) := by decide +kernel
theorem dX11_senderKey_2 : decode cX11_senderKey 2 = .ok (.getfield 535, 3) := by decide +kernel
theorem dX11_senderKey_5 : decode cX11_senderKey 5 = .ok (.invokevirtual 471, 3) := by decide +kernel
theorem dX11_senderKey_8 : decode cX11_senderKey 8 = .ok (.astore_n 3, 1) := by decide +kernel
theorem dX11_senderKey_9 : decode cX11_senderKey 9 = .ok (.aload_n 3, 1) := by decide +kernel
theorem dX11_senderKey_10 : decode cX11_senderKey 10 = .ok (.ifnull 24, 3) := by decide +kernel
theorem dX11_senderKey_13 : decode cX11_senderKey 13 = .ok (.aload_n 3, 1) := by decide +kernel
theorem dX11_senderKey_14 : decode cX11_senderKey 14 = .ok (.getfield 261, 3) := by decide +kernel
theorem dX11_senderKey_17 : decode cX11_senderKey 17 = .ok (.aload_n 1, 1) := by decide +kernel
theorem dX11_senderKey_18 : decode cX11_senderKey 18 = .ok (.getfield 261, 3) := by decide +kernel
theorem dX11_senderKey_21 : decode cX11_senderKey 21 = .ok (.if_acmp .ne 13, 3) := by decide +kernel
theorem dX11_senderKey_24 : decode cX11_senderKey 24 = .ok (.aload_n 3, 1) := by decide +kernel
theorem dX11_senderKey_25 : decode cX11_senderKey 25 = .ok (.getfield 474, 3) := by decide +kernel
theorem dX11_senderKey_28 : decode cX11_senderKey 28 = .ok (.getfield 109, 3) := by decide +kernel
theorem dX11_senderKey_31 : decode cX11_senderKey 31 = .ok (.ifCond .ne 5, 3) := by decide +kernel
theorem dX11_senderKey_34 : decode cX11_senderKey 34 = .ok (.iconst (-1), 1) := by decide +kernel
theorem dX11_senderKey_35 : decode cX11_senderKey 35 = .ok (.ireturn, 1) := by decide +kernel
theorem dX11_senderKey_36 : decode cX11_senderKey 36 = .ok (.aload_n 3, 1) := by decide +kernel
theorem dX11_senderKey_37 : decode cX11_senderKey 37 = .ok (.getfield 474, 3) := by decide +kernel
theorem dX11_senderKey_40 : decode cX11_senderKey 40 = .ok (.aload_n 1, 1) := by decide +kernel
theorem dX11_senderKey_41 : decode cX11_senderKey 41 = .ok (.getfield 474, 3) := by decide +kernel
theorem dX11_senderKey_44 : decode cX11_senderKey 44 = .ok (.if_acmp .ne 7, 3) := by decide +kernel
theorem dX11_senderKey_47 : decode cX11_senderKey 47 = .ok (.iconst (-1), 1) := by decide +kernel
theorem dX11_senderKey_48 : decode cX11_senderKey 48 = .ok (.goto 14, 3) := by decide +kernel
theorem dX11_senderKey_51 : decode cX11_senderKey 51 = .ok (.aload_n 1, 1) := by decide +kernel
theorem dX11_senderKey_52 : decode cX11_senderKey 52 = .ok (.aload_n 3, 1) := by decide +kernel
theorem dX11_senderKey_53 : decode cX11_senderKey 53 = .ok (.getfield 474, 3) := by decide +kernel
theorem dX11_senderKey_56 : decode cX11_senderKey 56 = .ok (.getfield 484, 3) := by decide +kernel
theorem dX11_senderKey_59 : decode cX11_senderKey 59 = .ok (.invokestatic 422, 3) := by decide +kernel
theorem dX11_senderKey_62 : decode cX11_senderKey 62 = .ok (.ireturn, 1) := by decide +kernel
theorem dX11_takeGreeting_0 : decode cX11_takeGreeting 0 = .ok (.aload_n 1, 1) := by decide +kernel
theorem dX11_takeGreeting_1 : decode cX11_takeGreeting 1 = .ok (.getfield 474, 3) := by decide +kernel
theorem dX11_takeGreeting_4 : decode cX11_takeGreeting 4 = .ok (.getfield 395, 3) := by decide +kernel
theorem dX11_takeGreeting_7 : decode cX11_takeGreeting 7 = .ok (.astore_n 3, 1) := by decide +kernel
theorem dX11_takeGreeting_8 : decode cX11_takeGreeting 8 = .ok (.aload_n 0, 1) := by decide +kernel
theorem dX11_takeGreeting_9 : decode cX11_takeGreeting 9 = .ok (.aload_n 1, 1) := by decide +kernel
theorem dX11_takeGreeting_10 : decode cX11_takeGreeting 10 = .ok (.aload_n 2, 1) := by decide +kernel
theorem dX11_takeGreeting_11 : decode cX11_takeGreeting 11 = .ok (.invokevirtual 816, 3) := by decide +kernel
theorem dX11_takeGreeting_14 : decode cX11_takeGreeting 14 = .ok (.istore 4, 2) := by decide +kernel
theorem dX11_takeGreeting_16 : decode cX11_takeGreeting 16 = .ok (.iload 4, 2) := by decide +kernel
theorem dX11_takeGreeting_18 : decode cX11_takeGreeting 18 = .ok (.ifCond .ge 4, 3) := by decide +kernel
theorem dX11_takeGreeting_21 : decode cX11_takeGreeting 21 = .ok (.return_, 1) := by decide +kernel
theorem dX11_takeGreeting_22 : decode cX11_takeGreeting 22 = .ok (.iconst 0, 1) := by decide +kernel
theorem dX11_takeGreeting_23 : decode cX11_takeGreeting 23 = .ok (.istore 5, 2) := by decide +kernel
theorem dX11_takeGreeting_25 : decode cX11_takeGreeting 25 = .ok (.aload_n 2, 1) := by decide +kernel
theorem dX11_takeGreeting_26 : decode cX11_takeGreeting 26 = .ok (.iconst 2, 1) := by decide +kernel
theorem dX11_takeGreeting_27 : decode cX11_takeGreeting 27 = .ok (.invokevirtual 681, 3) := by decide +kernel
theorem dX11_takeGreeting_30 : decode cX11_takeGreeting 30 = .ok (.bipush 16, 2) := by decide +kernel
theorem dX11_takeGreeting_32 : decode cX11_takeGreeting 32 = .ok (.invokestatic 310, 3) := by decide +kernel
theorem dX11_takeGreeting_35 : decode cX11_takeGreeting 35 = .ok (.istore 6, 2) := by decide +kernel
theorem dX11_takeGreeting_37 : decode cX11_takeGreeting 37 = .ok (.iconst 0, 1) := by decide +kernel
theorem dX11_takeGreeting_38 : decode cX11_takeGreeting 38 = .ok (.istore 7, 2) := by decide +kernel
theorem dX11_takeGreeting_40 : decode cX11_takeGreeting 40 = .ok (.iload 7, 2) := by decide +kernel
theorem dX11_takeGreeting_42 : decode cX11_takeGreeting 42 = .ok (.iload 6, 2) := by decide +kernel
theorem dX11_takeGreeting_44 : decode cX11_takeGreeting 44 = .ok (.if_icmp .ge 33, 3) := by decide +kernel
theorem dX11_takeGreeting_47 : decode cX11_takeGreeting 47 = .ok (.aload_n 2, 1) := by decide +kernel
theorem dX11_takeGreeting_48 : decode cX11_takeGreeting 48 = .ok (.bipush 8, 2) := by decide +kernel
theorem dX11_takeGreeting_50 : decode cX11_takeGreeting 50 = .ok (.iconst 2, 1) := by decide +kernel
theorem dX11_takeGreeting_51 : decode cX11_takeGreeting 51 = .ok (.iload 7, 2) := by decide +kernel
theorem dX11_takeGreeting_53 : decode cX11_takeGreeting 53 = .ok (.imul, 1) := by decide +kernel
theorem dX11_takeGreeting_54 : decode cX11_takeGreeting 54 = .ok (.iadd, 1) := by decide +kernel
theorem dX11_takeGreeting_55 : decode cX11_takeGreeting 55 = .ok (.invokevirtual 681, 3) := by decide +kernel
theorem dX11_takeGreeting_58 : decode cX11_takeGreeting 58 = .ok (.aload_n 1, 1) := by decide +kernel
theorem dX11_takeGreeting_59 : decode cX11_takeGreeting 59 = .ok (.getfield 474, 3) := by decide +kernel
theorem dX11_takeGreeting_62 : decode cX11_takeGreeting 62 = .ok (.getfield 484, 3) := by decide +kernel
theorem dX11_takeGreeting_65 : decode cX11_takeGreeting 65 = .ok (.if_icmp .ne 6, 3) := by decide +kernel
theorem dX11_takeGreeting_68 : decode cX11_takeGreeting 68 = .ok (.iconst 1, 1) := by decide +kernel
theorem dX11_takeGreeting_69 : decode cX11_takeGreeting 69 = .ok (.istore 5, 2) := by decide +kernel
theorem dX11_takeGreeting_71 : decode cX11_takeGreeting 71 = .ok (.iinc 7 1, 3) := by decide +kernel
theorem dX11_takeGreeting_74 : decode cX11_takeGreeting 74 = .ok (.goto (-34), 3) := by decide +kernel
theorem dX11_takeGreeting_77 : decode cX11_takeGreeting 77 = .ok (.aload_n 3, 1) := by decide +kernel
theorem dX11_takeGreeting_78 : decode cX11_takeGreeting 78 = .ok (.getfield 768, 3) := by decide +kernel
theorem dX11_takeGreeting_81 : decode cX11_takeGreeting 81 = .ok (.iload 4, 2) := by decide +kernel
theorem dX11_takeGreeting_83 : decode cX11_takeGreeting 83 = .ok (.iaload, 1) := by decide +kernel
theorem dX11_takeGreeting_84 : decode cX11_takeGreeting 84 = .ok (.ifCond .ne 23, 3) := by decide +kernel
theorem dX11_takeGreeting_87 : decode cX11_takeGreeting 87 = .ok (.aload_n 3, 1) := by decide +kernel
theorem dX11_takeGreeting_88 : decode cX11_takeGreeting 88 = .ok (.getfield 762, 3) := by decide +kernel
theorem dX11_takeGreeting_91 : decode cX11_takeGreeting 91 = .ok (.bipush 16, 2) := by decide +kernel
theorem dX11_takeGreeting_93 : decode cX11_takeGreeting 93 = .ok (.if_icmp .lt 8, 3) := by decide +kernel
theorem dX11_takeGreeting_96 : decode cX11_takeGreeting 96 = .ok (.aload_n 0, 1) := by decide +kernel
theorem dX11_takeGreeting_97 : decode cX11_takeGreeting 97 = .ok (.invokevirtual 75, 3) := by decide +kernel
theorem dX11_takeGreeting_100 : decode cX11_takeGreeting 100 = .ok (.return_, 1) := by decide +kernel
theorem dX11_takeGreeting_101 : decode cX11_takeGreeting 101 = .ok (.aload_n 3, 1) := by decide +kernel
theorem dX11_takeGreeting_102 : decode cX11_takeGreeting 102 = .ok (.iload 4, 2) := by decide +kernel
theorem dX11_takeGreeting_104 : decode cX11_takeGreeting 104 = .ok (.invokevirtual 820, 3) := by decide +kernel
theorem dX11_takeGreeting_107 : decode cX11_takeGreeting 107 = .ok (.aload_n 3, 1) := by decide +kernel
theorem dX11_takeGreeting_108 : decode cX11_takeGreeting 108 = .ok (.getfield 768, 3) := by decide +kernel
theorem dX11_takeGreeting_111 : decode cX11_takeGreeting 111 = .ok (.iload 4, 2) := by decide +kernel
theorem dX11_takeGreeting_113 : decode cX11_takeGreeting 113 = .ok (.aload_n 0, 1) := by decide +kernel
theorem dX11_takeGreeting_114 : decode cX11_takeGreeting 114 = .ok (.getfield 176, 3) := by decide +kernel
theorem dX11_takeGreeting_117 : decode cX11_takeGreeting 117 = .ok (.iastore, 1) := by decide +kernel
theorem dX11_takeGreeting_118 : decode cX11_takeGreeting 118 = .ok (.aload_n 3, 1) := by decide +kernel
theorem dX11_takeGreeting_119 : decode cX11_takeGreeting 119 = .ok (.iload 4, 2) := by decide +kernel
theorem dX11_takeGreeting_121 : decode cX11_takeGreeting 121 = .ok (.iload 5, 2) := by decide +kernel
theorem dX11_takeGreeting_123 : decode cX11_takeGreeting 123 = .ok (.aload_n 0, 1) := by decide +kernel
theorem dX11_takeGreeting_124 : decode cX11_takeGreeting 124 = .ok (.getfield 176, 3) := by decide +kernel
theorem dX11_takeGreeting_127 : decode cX11_takeGreeting 127 = .ok (.invokevirtual 823, 3) := by decide +kernel
theorem dX11_takeGreeting_130 : decode cX11_takeGreeting 130 = .ok (.return_, 1) := by decide +kernel
theorem dX11_takeAdvert_0 : decode cX11_takeAdvert 0 = .ok (.aload_n 1, 1) := by decide +kernel
theorem dX11_takeAdvert_1 : decode cX11_takeAdvert 1 = .ok (.getfield 474, 3) := by decide +kernel
theorem dX11_takeAdvert_4 : decode cX11_takeAdvert 4 = .ok (.getfield 395, 3) := by decide +kernel
theorem dX11_takeAdvert_7 : decode cX11_takeAdvert 7 = .ok (.astore_n 3, 1) := by decide +kernel
theorem dX11_takeAdvert_8 : decode cX11_takeAdvert 8 = .ok (.aload_n 0, 1) := by decide +kernel
theorem dX11_takeAdvert_9 : decode cX11_takeAdvert 9 = .ok (.aload_n 1, 1) := by decide +kernel
theorem dX11_takeAdvert_10 : decode cX11_takeAdvert 10 = .ok (.aload_n 2, 1) := by decide +kernel
theorem dX11_takeAdvert_11 : decode cX11_takeAdvert 11 = .ok (.invokevirtual 816, 3) := by decide +kernel
theorem dX11_takeAdvert_14 : decode cX11_takeAdvert 14 = .ok (.istore 4, 2) := by decide +kernel
theorem dX11_takeAdvert_16 : decode cX11_takeAdvert 16 = .ok (.iload 4, 2) := by decide +kernel
theorem dX11_takeAdvert_18 : decode cX11_takeAdvert 18 = .ok (.ifCond .lt 13, 3) := by decide +kernel
theorem dX11_takeAdvert_21 : decode cX11_takeAdvert 21 = .ok (.aload_n 3, 1) := by decide +kernel
theorem dX11_takeAdvert_22 : decode cX11_takeAdvert 22 = .ok (.getfield 418, 3) := by decide +kernel
theorem dX11_takeAdvert_25 : decode cX11_takeAdvert 25 = .ok (.iload 4, 2) := by decide +kernel
theorem dX11_takeAdvert_27 : decode cX11_takeAdvert 27 = .ok (.baload, 1) := by decide +kernel
theorem dX11_takeAdvert_28 : decode cX11_takeAdvert 28 = .ok (.ifCond .ne 4, 3) := by decide +kernel
theorem dX11_takeAdvert_31 : decode cX11_takeAdvert 31 = .ok (.return_, 1) := by decide +kernel
theorem dX11_takeAdvert_32 : decode cX11_takeAdvert 32 = .ok (.aload_n 2, 1) := by decide +kernel
theorem dX11_takeAdvert_33 : decode cX11_takeAdvert 33 = .ok (.iconst 0, 1) := by decide +kernel
theorem dX11_takeAdvert_34 : decode cX11_takeAdvert 34 = .ok (.invokevirtual 681, 3) := by decide +kernel
theorem dX11_takeAdvert_37 : decode cX11_takeAdvert 37 = .ok (.istore 5, 2) := by decide +kernel
theorem dX11_takeAdvert_39 : decode cX11_takeAdvert 39 = .ok (.aload_n 2, 1) := by decide +kernel
theorem dX11_takeAdvert_40 : decode cX11_takeAdvert 40 = .ok (.iconst 2, 1) := by decide +kernel
theorem dX11_takeAdvert_41 : decode cX11_takeAdvert 41 = .ok (.invokevirtual 698, 3) := by decide +kernel
theorem dX11_takeAdvert_44 : decode cX11_takeAdvert 44 = .ok (.istore 6, 2) := by decide +kernel
theorem dX11_takeAdvert_46 : decode cX11_takeAdvert 46 = .ok (.iload 5, 2) := by decide +kernel
theorem dX11_takeAdvert_48 : decode cX11_takeAdvert 48 = .ok (.bipush 16, 2) := by decide +kernel
theorem dX11_takeAdvert_50 : decode cX11_takeAdvert 50 = .ok (.if_icmp .lt 4, 3) := by decide +kernel
theorem dX11_takeAdvert_53 : decode cX11_takeAdvert 53 = .ok (.return_, 1) := by decide +kernel
theorem dX11_takeAdvert_54 : decode cX11_takeAdvert 54 = .ok (.aload_n 3, 1) := by decide +kernel
theorem dX11_takeAdvert_55 : decode cX11_takeAdvert 55 = .ok (.iload 4, 2) := by decide +kernel
theorem dX11_takeAdvert_57 : decode cX11_takeAdvert 57 = .ok (.iload 5, 2) := by decide +kernel
theorem dX11_takeAdvert_59 : decode cX11_takeAdvert 59 = .ok (.iload 6, 2) := by decide +kernel
theorem dX11_takeAdvert_61 : decode cX11_takeAdvert 61 = .ok (.invokevirtual 827, 3) := by decide +kernel
theorem dX11_takeAdvert_64 : decode cX11_takeAdvert 64 = .ok (.ifCond .ne 7, 3) := by decide +kernel
theorem dX11_takeAdvert_67 : decode cX11_takeAdvert 67 = .ok (.aload_n 0, 1) := by decide +kernel
theorem dX11_takeAdvert_68 : decode cX11_takeAdvert 68 = .ok (.invokevirtual 75, 3) := by decide +kernel
theorem dX11_takeAdvert_71 : decode cX11_takeAdvert 71 = .ok (.aload_n 3, 1) := by decide +kernel
theorem dX11_takeAdvert_72 : decode cX11_takeAdvert 72 = .ok (.getfield 399, 3) := by decide +kernel
theorem dX11_takeAdvert_75 : decode cX11_takeAdvert 75 = .ok (.getfield 426, 3) := by decide +kernel
theorem dX11_takeAdvert_78 : decode cX11_takeAdvert 78 = .ok (.iload 5, 2) := by decide +kernel
theorem dX11_takeAdvert_80 : decode cX11_takeAdvert 80 = .ok (.iaload, 1) := by decide +kernel
theorem dX11_takeAdvert_81 : decode cX11_takeAdvert 81 = .ok (.istore 7, 2) := by decide +kernel
theorem dX11_takeAdvert_83 : decode cX11_takeAdvert 83 = .ok (.iload 6, 2) := by decide +kernel
theorem dX11_takeAdvert_85 : decode cX11_takeAdvert 85 = .ok (.iload 7, 2) := by decide +kernel
theorem dX11_takeAdvert_87 : decode cX11_takeAdvert 87 = .ok (.if_icmp .ge 16, 3) := by decide +kernel
theorem dX11_takeAdvert_90 : decode cX11_takeAdvert 90 = .ok (.aload_n 3, 1) := by decide +kernel
theorem dX11_takeAdvert_91 : decode cX11_takeAdvert 91 = .ok (.iload 4, 2) := by decide +kernel
theorem dX11_takeAdvert_93 : decode cX11_takeAdvert 93 = .ok (.iload 5, 2) := by decide +kernel
theorem dX11_takeAdvert_95 : decode cX11_takeAdvert 95 = .ok (.aload_n 0, 1) := by decide +kernel
theorem dX11_takeAdvert_96 : decode cX11_takeAdvert 96 = .ok (.getfield 176, 3) := by decide +kernel
theorem dX11_takeAdvert_99 : decode cX11_takeAdvert 99 = .ok (.invokevirtual 813, 3) := by decide +kernel
theorem dX11_takeAdvert_102 : decode cX11_takeAdvert 102 = .ok (.return_, 1) := by decide +kernel
theorem dX11_takeAdvert_103 : decode cX11_takeAdvert 103 = .ok (.aload_n 3, 1) := by decide +kernel
theorem dX11_takeAdvert_104 : decode cX11_takeAdvert 104 = .ok (.iload 4, 2) := by decide +kernel
theorem dX11_takeAdvert_106 : decode cX11_takeAdvert 106 = .ok (.iload 5, 2) := by decide +kernel
theorem dX11_takeAdvert_108 : decode cX11_takeAdvert 108 = .ok (.iconst 0, 1) := by decide +kernel
theorem dX11_takeAdvert_109 : decode cX11_takeAdvert 109 = .ok (.invokevirtual 813, 3) := by decide +kernel
theorem dX11_takeAdvert_112 : decode cX11_takeAdvert 112 = .ok (.iload 6, 2) := by decide +kernel
theorem dX11_takeAdvert_114 : decode cX11_takeAdvert 114 = .ok (.iload 7, 2) := by decide +kernel
theorem dX11_takeAdvert_116 : decode cX11_takeAdvert 116 = .ok (.if_icmp .ne 4, 3) := by decide +kernel
theorem dX11_takeAdvert_119 : decode cX11_takeAdvert 119 = .ok (.return_, 1) := by decide +kernel
theorem dX11_takeAdvert_120 : decode cX11_takeAdvert 120 = .ok (.iload 5, 2) := by decide +kernel
theorem dX11_takeAdvert_122 : decode cX11_takeAdvert 122 = .ok (.aload_n 1, 1) := by decide +kernel
theorem dX11_takeAdvert_123 : decode cX11_takeAdvert 123 = .ok (.getfield 474, 3) := by decide +kernel
theorem dX11_takeAdvert_126 : decode cX11_takeAdvert 126 = .ok (.getfield 484, 3) := by decide +kernel
theorem dX11_takeAdvert_129 : decode cX11_takeAdvert 129 = .ok (.if_icmp .ne 23, 3) := by decide +kernel
theorem dX11_takeAdvert_132 : decode cX11_takeAdvert 132 = .ok (.aload_n 3, 1) := by decide +kernel
theorem dX11_takeAdvert_133 : decode cX11_takeAdvert 133 = .ok (.getfield 399, 3) := by decide +kernel
theorem dX11_takeAdvert_136 : decode cX11_takeAdvert 136 = .ok (.aload_n 3, 1) := by decide +kernel
theorem dX11_takeAdvert_137 : decode cX11_takeAdvert 137 = .ok (.getfield 399, 3) := by decide +kernel
theorem dX11_takeAdvert_140 : decode cX11_takeAdvert 140 = .ok (.getfield 775, 3) := by decide +kernel
theorem dX11_takeAdvert_143 : decode cX11_takeAdvert 143 = .ok (.iload 6, 2) := by decide +kernel
theorem dX11_takeAdvert_145 : decode cX11_takeAdvert 145 = .ok (.invokestatic 464, 3) := by decide +kernel
theorem dX11_takeAdvert_148 : decode cX11_takeAdvert 148 = .ok (.putfield 775, 3) := by decide +kernel
theorem dX11_takeAdvert_151 : decode cX11_takeAdvert 151 = .ok (.return_, 1) := by decide +kernel
theorem dX11_takeAdvert_152 : decode cX11_takeAdvert 152 = .ok (.aload_n 3, 1) := by decide +kernel
theorem dX11_takeAdvert_153 : decode cX11_takeAdvert 153 = .ok (.getfield 399, 3) := by decide +kernel
theorem dX11_takeAdvert_156 : decode cX11_takeAdvert 156 = .ok (.aload_n 2, 1) := by decide +kernel
theorem dX11_takeAdvert_157 : decode cX11_takeAdvert 157 = .ok (.iload 5, 2) := by decide +kernel
theorem dX11_takeAdvert_159 : decode cX11_takeAdvert 159 = .ok (.iload 6, 2) := by decide +kernel
theorem dX11_takeAdvert_161 : decode cX11_takeAdvert 161 = .ok (.aload_n 0, 1) := by decide +kernel
theorem dX11_takeAdvert_162 : decode cX11_takeAdvert 162 = .ok (.getfield 176, 3) := by decide +kernel
theorem dX11_takeAdvert_165 : decode cX11_takeAdvert 165 = .ok (.invokevirtual 830, 3) := by decide +kernel
theorem dX11_takeAdvert_168 : decode cX11_takeAdvert 168 = .ok (.aload_n 3, 1) := by decide +kernel
theorem dX11_takeAdvert_169 : decode cX11_takeAdvert 169 = .ok (.iload 5, 2) := by decide +kernel
theorem dX11_takeAdvert_171 : decode cX11_takeAdvert 171 = .ok (.iload 4, 2) := by decide +kernel
theorem dX11_takeAdvert_173 : decode cX11_takeAdvert 173 = .ok (.aload_n 0, 1) := by decide +kernel
theorem dX11_takeAdvert_174 : decode cX11_takeAdvert 174 = .ok (.getfield 176, 3) := by decide +kernel
theorem dX11_takeAdvert_177 : decode cX11_takeAdvert 177 = .ok (.invokevirtual 787, 3) := by decide +kernel
theorem dX11_takeAdvert_180 : decode cX11_takeAdvert 180 = .ok (.return_, 1) := by decide +kernel
theorem dX11_takeThanking_0 : decode cX11_takeThanking 0 = .ok (.aload_n 1, 1) := by decide +kernel
theorem dX11_takeThanking_1 : decode cX11_takeThanking 1 = .ok (.getfield 474, 3) := by decide +kernel
theorem dX11_takeThanking_4 : decode cX11_takeThanking 4 = .ok (.getfield 395, 3) := by decide +kernel
theorem dX11_takeThanking_7 : decode cX11_takeThanking 7 = .ok (.astore_n 3, 1) := by decide +kernel
theorem dX11_takeThanking_8 : decode cX11_takeThanking 8 = .ok (.aload_n 0, 1) := by decide +kernel
theorem dX11_takeThanking_9 : decode cX11_takeThanking 9 = .ok (.aload_n 1, 1) := by decide +kernel
theorem dX11_takeThanking_10 : decode cX11_takeThanking 10 = .ok (.aload_n 2, 1) := by decide +kernel
theorem dX11_takeThanking_11 : decode cX11_takeThanking 11 = .ok (.invokevirtual 816, 3) := by decide +kernel
theorem dX11_takeThanking_14 : decode cX11_takeThanking 14 = .ok (.istore 4, 2) := by decide +kernel
theorem dX11_takeThanking_16 : decode cX11_takeThanking 16 = .ok (.aload_n 2, 1) := by decide +kernel
theorem dX11_takeThanking_17 : decode cX11_takeThanking 17 = .ok (.iconst 0, 1) := by decide +kernel
theorem dX11_takeThanking_18 : decode cX11_takeThanking 18 = .ok (.invokevirtual 681, 3) := by decide +kernel
theorem dX11_takeThanking_21 : decode cX11_takeThanking 21 = .ok (.istore 5, 2) := by decide +kernel
theorem dX11_takeThanking_23 : decode cX11_takeThanking 23 = .ok (.iload 4, 2) := by decide +kernel
theorem dX11_takeThanking_25 : decode cX11_takeThanking 25 = .ok (.ifCond .lt 10, 3) := by decide +kernel
theorem dX11_takeThanking_28 : decode cX11_takeThanking 28 = .ok (.iload 5, 2) := by decide +kernel
theorem dX11_takeThanking_30 : decode cX11_takeThanking 30 = .ok (.bipush 16, 2) := by decide +kernel
theorem dX11_takeThanking_32 : decode cX11_takeThanking 32 = .ok (.if_icmp .lt 4, 3) := by decide +kernel
theorem dX11_takeThanking_35 : decode cX11_takeThanking 35 = .ok (.return_, 1) := by decide +kernel
theorem dX11_takeThanking_36 : decode cX11_takeThanking 36 = .ok (.aload_n 3, 1) := by decide +kernel
theorem dX11_takeThanking_37 : decode cX11_takeThanking 37 = .ok (.getfield 399, 3) := by decide +kernel
theorem dX11_takeThanking_40 : decode cX11_takeThanking 40 = .ok (.getfield 426, 3) := by decide +kernel
theorem dX11_takeThanking_43 : decode cX11_takeThanking 43 = .ok (.iload 5, 2) := by decide +kernel
theorem dX11_takeThanking_45 : decode cX11_takeThanking 45 = .ok (.iaload, 1) := by decide +kernel
theorem dX11_takeThanking_46 : decode cX11_takeThanking 46 = .ok (.aload_n 2, 1) := by decide +kernel
theorem dX11_takeThanking_47 : decode cX11_takeThanking 47 = .ok (.iconst 2, 1) := by decide +kernel
theorem dX11_takeThanking_48 : decode cX11_takeThanking 48 = .ok (.invokevirtual 698, 3) := by decide +kernel
theorem dX11_takeThanking_51 : decode cX11_takeThanking 51 = .ok (.if_icmp .ne 12, 3) := by decide +kernel
theorem dX11_takeThanking_54 : decode cX11_takeThanking 54 = .ok (.aload_n 3, 1) := by decide +kernel
theorem dX11_takeThanking_55 : decode cX11_takeThanking 55 = .ok (.iload 4, 2) := by decide +kernel
theorem dX11_takeThanking_57 : decode cX11_takeThanking 57 = .ok (.iload 5, 2) := by decide +kernel
theorem dX11_takeThanking_59 : decode cX11_takeThanking 59 = .ok (.iconst 0, 1) := by decide +kernel
theorem dX11_takeThanking_60 : decode cX11_takeThanking 60 = .ok (.invokevirtual 813, 3) := by decide +kernel
theorem dX11_takeThanking_63 : decode cX11_takeThanking 63 = .ok (.return_, 1) := by decide +kernel
theorem dX11_doHost_0 : decode cX11_doHost 0 = .ok (.iconst 0, 1) := by decide +kernel
theorem dX11_doHost_1 : decode cX11_doHost 1 = .ok (.istore_n 2, 1) := by decide +kernel
theorem dX11_doHost_2 : decode cX11_doHost 2 = .ok (.iload_n 2, 1) := by decide +kernel
theorem dX11_doHost_3 : decode cX11_doHost 3 = .ok (.bipush 6, 2) := by decide +kernel
theorem dX11_doHost_5 : decode cX11_doHost 5 = .ok (.if_icmp .ge 98, 3) := by decide +kernel
theorem dX11_doHost_8 : decode cX11_doHost 8 = .ok (.aload_n 1, 1) := by decide +kernel
theorem dX11_doHost_9 : decode cX11_doHost 9 = .ok (.getfield 220, 3) := by decide +kernel
theorem dX11_doHost_12 : decode cX11_doHost 12 = .ok (.iload_n 2, 1) := by decide +kernel
theorem dX11_doHost_13 : decode cX11_doHost 13 = .ok (.aaload, 1) := by decide +kernel
theorem dX11_doHost_14 : decode cX11_doHost 14 = .ok (.astore_n 3, 1) := by decide +kernel
theorem dX11_doHost_15 : decode cX11_doHost 15 = .ok (.aload_n 3, 1) := by decide +kernel
theorem dX11_doHost_16 : decode cX11_doHost 16 = .ok (.getfield 279, 3) := by decide +kernel
theorem dX11_doHost_19 : decode cX11_doHost 19 = .ok (.iconst 2, 1) := by decide +kernel
theorem dX11_doHost_20 : decode cX11_doHost 20 = .ok (.if_icmp .eq 6, 3) := by decide +kernel
theorem dX11_doHost_23 : decode cX11_doHost 23 = .ok (.goto 74, 3) := by decide +kernel
theorem dX11_doHost_26 : decode cX11_doHost 26 = .ok (.aload_n 3, 1) := by decide +kernel
theorem dX11_doHost_27 : decode cX11_doHost 27 = .ok (.getfield 253, 3) := by decide +kernel
theorem dX11_doHost_30 : decode cX11_doHost 30 = .ok (.astore 4, 2) := by decide +kernel
theorem dX11_doHost_32 : decode cX11_doHost 32 = .ok (.aload 4, 2) := by decide +kernel
theorem dX11_doHost_34 : decode cX11_doHost 34 = .ok (.aload_n 0, 1) := by decide +kernel
theorem dX11_doHost_35 : decode cX11_doHost 35 = .ok (.getfield 176, 3) := by decide +kernel
theorem dX11_doHost_38 : decode cX11_doHost 38 = .ok (.invokevirtual 833, 3) := by decide +kernel
theorem dX11_doHost_41 : decode cX11_doHost 41 = .ok (.iconst 0, 1) := by decide +kernel
theorem dX11_doHost_42 : decode cX11_doHost 42 = .ok (.istore 5, 2) := by decide +kernel
theorem dX11_doHost_44 : decode cX11_doHost 44 = .ok (.iload 5, 2) := by decide +kernel
theorem dX11_doHost_46 : decode cX11_doHost 46 = .ok (.sipush 8192, 3) := by decide +kernel
theorem dX11_doHost_49 : decode cX11_doHost 49 = .ok (.if_icmp .ge 43, 3) := by decide +kernel
theorem dX11_doHost_52 : decode cX11_doHost 52 = .ok (.aload 4, 2) := by decide +kernel
theorem dX11_doHost_54 : decode cX11_doHost 54 = .ok (.aload_n 0, 1) := by decide +kernel
theorem dX11_doHost_55 : decode cX11_doHost 55 = .ok (.getfield 31, 3) := by decide +kernel
theorem dX11_doHost_58 : decode cX11_doHost 58 = .ok (.aload_n 0, 1) := by decide +kernel
theorem dX11_doHost_59 : decode cX11_doHost 59 = .ok (.getfield 176, 3) := by decide +kernel
theorem dX11_doHost_62 : decode cX11_doHost 62 = .ok (.invokevirtual 836, 3) := by decide +kernel
theorem dX11_doHost_65 : decode cX11_doHost 65 = .ok (.ifCond .ne 6, 3) := by decide +kernel
theorem dX11_doHost_68 : decode cX11_doHost 68 = .ok (.goto 24, 3) := by decide +kernel
theorem dX11_doHost_71 : decode cX11_doHost 71 = .ok (.aload_n 0, 1) := by decide +kernel
theorem dX11_doHost_72 : decode cX11_doHost 72 = .ok (.aload_n 1, 1) := by decide +kernel
theorem dX11_doHost_73 : decode cX11_doHost 73 = .ok (.aload_n 3, 1) := by decide +kernel
theorem dX11_doHost_74 : decode cX11_doHost 74 = .ok (.invokevirtual 840, 3) := by decide +kernel
theorem dX11_doHost_77 : decode cX11_doHost 77 = .ok (.aload_n 0, 1) := by decide +kernel
theorem dX11_doHost_78 : decode cX11_doHost 78 = .ok (.aload_n 1, 1) := by decide +kernel
theorem dX11_doHost_79 : decode cX11_doHost 79 = .ok (.aload_n 0, 1) := by decide +kernel
theorem dX11_doHost_80 : decode cX11_doHost 80 = .ok (.getfield 31, 3) := by decide +kernel
theorem dX11_doHost_83 : decode cX11_doHost 83 = .ok (.invokevirtual 589, 3) := by decide +kernel
theorem dX11_doHost_86 : decode cX11_doHost 86 = .ok (.iinc 5 1, 3) := by decide +kernel
theorem dX11_doHost_89 : decode cX11_doHost 89 = .ok (.goto (-45), 3) := by decide +kernel
theorem dX11_doHost_92 : decode cX11_doHost 92 = .ok (.aload_n 0, 1) := by decide +kernel
theorem dX11_doHost_93 : decode cX11_doHost 93 = .ok (.aload_n 3, 1) := by decide +kernel
theorem dX11_doHost_94 : decode cX11_doHost 94 = .ok (.invokevirtual 844, 3) := by decide +kernel
theorem dX11_doHost_97 : decode cX11_doHost 97 = .ok (.iinc 2 1, 3) := by decide +kernel
theorem dX11_doHost_100 : decode cX11_doHost 100 = .ok (.goto (-98), 3) := by decide +kernel
theorem dX11_doHost_103 : decode cX11_doHost 103 = .ok (.return_, 1) := by decide +kernel
theorem dX11_addressSegment_0 : decode cX11_addressSegment 0 = .ok (.aload_n 1, 1) := by decide +kernel
theorem dX11_addressSegment_1 : decode cX11_addressSegment 1 = .ok (.getfield 134, 3) := by decide +kernel
theorem dX11_addressSegment_4 : decode cX11_addressSegment 4 = .ok (.iconst 0, 1) := by decide +kernel
theorem dX11_addressSegment_5 : decode cX11_addressSegment 5 = .ok (.aaload, 1) := by decide +kernel
theorem dX11_addressSegment_6 : decode cX11_addressSegment 6 = .ok (.astore_n 3, 1) := by decide +kernel
theorem dX11_addressSegment_7 : decode cX11_addressSegment 7 = .ok (.aload_n 0, 1) := by decide +kernel
theorem dX11_addressSegment_8 : decode cX11_addressSegment 8 = .ok (.getfield 31, 3) := by decide +kernel
theorem dX11_addressSegment_11 : decode cX11_addressSegment 11 = .ok (.aload_n 3, 1) := by decide +kernel
theorem dX11_addressSegment_12 : decode cX11_addressSegment 12 = .ok (.ifnonnull 7, 3) := by decide +kernel
theorem dX11_addressSegment_15 : decode cX11_addressSegment 15 = .ok (.iconst 0, 1) := by decide +kernel
theorem dX11_addressSegment_16 : decode cX11_addressSegment 16 = .ok (.goto 7, 3) := by decide +kernel
theorem dX11_addressSegment_19 : decode cX11_addressSegment 19 = .ok (.aload_n 3, 1) := by decide +kernel
theorem dX11_addressSegment_20 : decode cX11_addressSegment 20 = .ok (.getfield 141, 3) := by decide +kernel
theorem dX11_addressSegment_23 : decode cX11_addressSegment 23 = .ok (.putfield 535, 3) := by decide +kernel
theorem dX11_addressSegment_26 : decode cX11_addressSegment 26 = .ok (.aload_n 0, 1) := by decide +kernel
theorem dX11_addressSegment_27 : decode cX11_addressSegment 27 = .ok (.getfield 31, 3) := by decide +kernel
theorem dX11_addressSegment_30 : decode cX11_addressSegment 30 = .ok (.aload_n 2, 1) := by decide +kernel
theorem dX11_addressSegment_31 : decode cX11_addressSegment 31 = .ok (.getfield 384, 3) := by decide +kernel
theorem dX11_addressSegment_34 : decode cX11_addressSegment 34 = .ok (.putfield 538, 3) := by decide +kernel
theorem dX11_addressSegment_37 : decode cX11_addressSegment 37 = .ok (.aload_n 0, 1) := by decide +kernel
theorem dX11_addressSegment_38 : decode cX11_addressSegment 38 = .ok (.getfield 31, 3) := by decide +kernel
theorem dX11_addressSegment_41 : decode cX11_addressSegment 41 = .ok (.iconst 0, 1) := by decide +kernel
theorem dX11_addressSegment_42 : decode cX11_addressSegment 42 = .ok (.aload_n 2, 1) := by decide +kernel
theorem dX11_addressSegment_43 : decode cX11_addressSegment 43 = .ok (.getfield 378, 3) := by decide +kernel
theorem dX11_addressSegment_46 : decode cX11_addressSegment 46 = .ok (.invokevirtual 695, 3) := by decide +kernel
theorem dX11_addressSegment_49 : decode cX11_addressSegment 49 = .ok (.aload_n 0, 1) := by decide +kernel
theorem dX11_addressSegment_50 : decode cX11_addressSegment 50 = .ok (.getfield 31, 3) := by decide +kernel
theorem dX11_addressSegment_53 : decode cX11_addressSegment 53 = .ok (.iconst 2, 1) := by decide +kernel
theorem dX11_addressSegment_54 : decode cX11_addressSegment 54 = .ok (.aload_n 2, 1) := by decide +kernel
theorem dX11_addressSegment_55 : decode cX11_addressSegment 55 = .ok (.getfield 381, 3) := by decide +kernel
theorem dX11_addressSegment_58 : decode cX11_addressSegment 58 = .ok (.invokevirtual 695, 3) := by decide +kernel
theorem dX11_addressSegment_61 : decode cX11_addressSegment 61 = .ok (.aload_n 0, 1) := by decide +kernel
theorem dX11_addressSegment_62 : decode cX11_addressSegment 62 = .ok (.getfield 31, 3) := by decide +kernel
theorem dX11_addressSegment_65 : decode cX11_addressSegment 65 = .ok (.aload_n 1, 1) := by decide +kernel
theorem dX11_addressSegment_66 : decode cX11_addressSegment 66 = .ok (.invokevirtual 688, 3) := by decide +kernel
theorem dX11_addressSegment_69 : decode cX11_addressSegment 69 = .ok (.putfield 691, 3) := by decide +kernel
theorem dX11_addressSegment_72 : decode cX11_addressSegment 72 = .ok (.aload_n 0, 1) := by decide +kernel
theorem dX11_addressSegment_73 : decode cX11_addressSegment 73 = .ok (.getfield 31, 3) := by decide +kernel
theorem dX11_addressSegment_76 : decode cX11_addressSegment 76 = .ok (.aload_n 2, 1) := by decide +kernel
theorem dX11_addressSegment_77 : decode cX11_addressSegment 77 = .ok (.getfield 253, 3) := by decide +kernel
theorem dX11_addressSegment_80 : decode cX11_addressSegment 80 = .ok (.getfield 847, 3) := by decide +kernel
theorem dX11_addressSegment_83 : decode cX11_addressSegment 83 = .ok (.putfield 850, 3) := by decide +kernel
theorem dX11_addressSegment_86 : decode cX11_addressSegment 86 = .ok (.return_, 1) := by decide +kernel
theorem dX11_settle_0 : decode cX11_settle 0 = .ok (.aload_n 1, 1) := by decide +kernel
theorem dX11_settle_1 : decode cX11_settle 1 = .ok (.getfield 253, 3) := by decide +kernel
theorem dX11_settle_4 : decode cX11_settle 4 = .ok (.astore_n 2, 1) := by decide +kernel
theorem dX11_settle_5 : decode cX11_settle 5 = .ok (.aload_n 1, 1) := by decide +kernel
theorem dX11_settle_6 : decode cX11_settle 6 = .ok (.getfield 387, 3) := by decide +kernel
theorem dX11_settle_9 : decode cX11_settle 9 = .ok (.ifCond .eq 45, 3) := by decide +kernel
theorem dX11_settle_12 : decode cX11_settle 12 = .ok (.iconst 0, 1) := by decide +kernel
theorem dX11_settle_13 : decode cX11_settle 13 = .ok (.istore_n 3, 1) := by decide +kernel
theorem dX11_settle_14 : decode cX11_settle 14 = .ok (.iload_n 3, 1) := by decide +kernel
theorem dX11_settle_15 : decode cX11_settle 15 = .ok (.sipush 2048, 3) := by decide +kernel
theorem dX11_settle_18 : decode cX11_settle 18 = .ok (.if_icmp .ge 36, 3) := by decide +kernel
theorem dX11_settle_21 : decode cX11_settle 21 = .ok (.aload_n 2, 1) := by decide +kernel
theorem dX11_settle_22 : decode cX11_settle 22 = .ok (.getfield 332, 3) := by decide +kernel
theorem dX11_settle_25 : decode cX11_settle 25 = .ok (.getfield 336, 3) := by decide +kernel
theorem dX11_settle_28 : decode cX11_settle 28 = .ok (.ifCond .le 26, 3) := by decide +kernel
theorem dX11_settle_31 : decode cX11_settle 31 = .ok (.aload_n 1, 1) := by decide +kernel
theorem dX11_settle_32 : decode cX11_settle 32 = .ok (.bipush 31, 2) := by decide +kernel
theorem dX11_settle_34 : decode cX11_settle 34 = .ok (.aload_n 1, 1) := by decide +kernel
theorem dX11_settle_35 : decode cX11_settle 35 = .ok (.getfield 390, 3) := by decide +kernel
theorem dX11_settle_38 : decode cX11_settle 38 = .ok (.imul, 1) := by decide +kernel
theorem dX11_settle_39 : decode cX11_settle 39 = .ok (.aload_n 0, 1) := by decide +kernel
theorem dX11_settle_40 : decode cX11_settle 40 = .ok (.aload_n 1, 1) := by decide +kernel
theorem dX11_settle_41 : decode cX11_settle 41 = .ok (.invokevirtual 342, 3) := by decide +kernel
theorem dX11_settle_44 : decode cX11_settle 44 = .ok (.iadd, 1) := by decide +kernel
theorem dX11_settle_45 : decode cX11_settle 45 = .ok (.putfield 390, 3) := by decide +kernel
theorem dX11_settle_48 : decode cX11_settle 48 = .ok (.iinc 3 1, 3) := by decide +kernel
theorem dX11_settle_51 : decode cX11_settle 51 = .ok (.goto (-37), 3) := by decide +kernel
theorem dX11_settle_54 : decode cX11_settle 54 = .ok (.aload_n 2, 1) := by decide +kernel
theorem dX11_settle_55 : decode cX11_settle 55 = .ok (.getfield 332, 3) := by decide +kernel
theorem dX11_settle_58 : decode cX11_settle 58 = .ok (.getfield 336, 3) := by decide +kernel
theorem dX11_settle_61 : decode cX11_settle 61 = .ok (.ifCond .le 7, 3) := by decide +kernel
theorem dX11_settle_64 : decode cX11_settle 64 = .ok (.aload_n 0, 1) := by decide +kernel
theorem dX11_settle_65 : decode cX11_settle 65 = .ok (.invokevirtual 75, 3) := by decide +kernel
theorem dX11_settle_68 : decode cX11_settle 68 = .ok (.aload_n 2, 1) := by decide +kernel
theorem dX11_settle_69 : decode cX11_settle 69 = .ok (.aload_n 0, 1) := by decide +kernel
theorem dX11_settle_70 : decode cX11_settle 70 = .ok (.getfield 176, 3) := by decide +kernel
theorem dX11_settle_73 : decode cX11_settle 73 = .ok (.invokevirtual 366, 3) := by decide +kernel
theorem dX11_settle_76 : decode cX11_settle 76 = .ok (.aload_n 1, 1) := by decide +kernel
theorem dX11_settle_77 : decode cX11_settle 77 = .ok (.getfield 851, 3) := by decide +kernel
theorem dX11_settle_80 : decode cX11_settle 80 = .ok (.ifCond .ne 4, 3) := by decide +kernel
theorem dX11_settle_83 : decode cX11_settle 83 = .ok (.return_, 1) := by decide +kernel
theorem dX11_settle_84 : decode cX11_settle 84 = .ok (.aload_n 2, 1) := by decide +kernel
theorem dX11_settle_85 : decode cX11_settle 85 = .ok (.getfield 290, 3) := by decide +kernel
theorem dX11_settle_88 : decode cX11_settle 88 = .ok (.iconst 1, 1) := by decide +kernel
theorem dX11_settle_89 : decode cX11_settle 89 = .ok (.if_icmp .eq 17, 3) := by decide +kernel
theorem dX11_settle_92 : decode cX11_settle 92 = .ok (.aload_n 2, 1) := by decide +kernel
theorem dX11_settle_93 : decode cX11_settle 93 = .ok (.invokevirtual 355, 3) := by decide +kernel
theorem dX11_settle_96 : decode cX11_settle 96 = .ok (.ifCond .eq 14, 3) := by decide +kernel
theorem dX11_settle_99 : decode cX11_settle 99 = .ok (.aload_n 1, 1) := by decide +kernel
theorem dX11_settle_100 : decode cX11_settle 100 = .ok (.getfield 287, 3) := by decide +kernel
theorem dX11_settle_103 : decode cX11_settle 103 = .ok (.ifCond .ne 7, 3) := by decide +kernel
theorem dX11_settle_106 : decode cX11_settle 106 = .ok (.aload_n 1, 1) := by decide +kernel
theorem dX11_settle_107 : decode cX11_settle 107 = .ok (.invokevirtual 352, 3) := by decide +kernel
theorem dX11_settle_110 : decode cX11_settle 110 = .ok (.return_, 1) := by decide +kernel
theorem dX11_takeSegment_0 : decode cX11_takeSegment 0 = .ok (.aload_n 1, 1) := by decide +kernel
theorem dX11_takeSegment_1 : decode cX11_takeSegment 1 = .ok (.getfield 474, 3) := by decide +kernel
theorem dX11_takeSegment_4 : decode cX11_takeSegment 4 = .ok (.astore_n 3, 1) := by decide +kernel
theorem dX11_takeSegment_5 : decode cX11_takeSegment 5 = .ok (.aload_n 2, 1) := by decide +kernel
theorem dX11_takeSegment_6 : decode cX11_takeSegment 6 = .ok (.invokevirtual 854, 3) := by decide +kernel
theorem dX11_takeSegment_9 : decode cX11_takeSegment 9 = .ok (.aload_n 2, 1) := by decide +kernel
theorem dX11_takeSegment_10 : decode cX11_takeSegment 10 = .ok (.iconst 2, 1) := by decide +kernel
theorem dX11_takeSegment_11 : decode cX11_takeSegment 11 = .ok (.invokevirtual 681, 3) := by decide +kernel
theorem dX11_takeSegment_14 : decode cX11_takeSegment 14 = .ok (.istore 4, 2) := by decide +kernel
theorem dX11_takeSegment_16 : decode cX11_takeSegment 16 = .ok (.aload_n 2, 1) := by decide +kernel
theorem dX11_takeSegment_17 : decode cX11_takeSegment 17 = .ok (.iconst 0, 1) := by decide +kernel
theorem dX11_takeSegment_18 : decode cX11_takeSegment 18 = .ok (.invokevirtual 681, 3) := by decide +kernel
theorem dX11_takeSegment_21 : decode cX11_takeSegment 21 = .ok (.istore 5, 2) := by decide +kernel
theorem dX11_takeSegment_23 : decode cX11_takeSegment 23 = .ok (.aload_n 3, 1) := by decide +kernel
theorem dX11_takeSegment_24 : decode cX11_takeSegment 24 = .ok (.iload 4, 2) := by decide +kernel
theorem dX11_takeSegment_26 : decode cX11_takeSegment 26 = .ok (.aload_n 2, 1) := by decide +kernel
theorem dX11_takeSegment_27 : decode cX11_takeSegment 27 = .ok (.getfield 535, 3) := by decide +kernel
theorem dX11_takeSegment_30 : decode cX11_takeSegment 30 = .ok (.iload 5, 2) := by decide +kernel
theorem dX11_takeSegment_32 : decode cX11_takeSegment 32 = .ok (.invokevirtual 857, 3) := by decide +kernel
theorem dX11_takeSegment_35 : decode cX11_takeSegment 35 = .ok (.astore 6, 2) := by decide +kernel
theorem dX11_takeSegment_37 : decode cX11_takeSegment 37 = .ok (.aload 6, 2) := by decide +kernel
theorem dX11_takeSegment_39 : decode cX11_takeSegment 39 = .ok (.ifnonnull 104, 3) := by decide +kernel
theorem dX11_takeSegment_42 : decode cX11_takeSegment 42 = .ok (.aload_n 2, 1) := by decide +kernel
theorem dX11_takeSegment_43 : decode cX11_takeSegment 43 = .ok (.getfield 861, 3) := by decide +kernel
theorem dX11_takeSegment_46 : decode cX11_takeSegment 46 = .ok (.bipush 13, 2) := by decide +kernel
theorem dX11_takeSegment_48 : decode cX11_takeSegment 48 = .ok (.iand, 1) := by decide +kernel
theorem dX11_takeSegment_49 : decode cX11_takeSegment 49 = .ok (.iconst 1, 1) := by decide +kernel
theorem dX11_takeSegment_50 : decode cX11_takeSegment 50 = .ok (.if_icmp .ne 93, 3) := by decide +kernel
theorem dX11_takeSegment_53 : decode cX11_takeSegment 53 = .ok (.aload_n 3, 1) := by decide +kernel
theorem dX11_takeSegment_54 : decode cX11_takeSegment 54 = .ok (.iload 4, 2) := by decide +kernel
theorem dX11_takeSegment_56 : decode cX11_takeSegment 56 = .ok (.invokevirtual 214, 3) := by decide +kernel
theorem dX11_takeSegment_59 : decode cX11_takeSegment 59 = .ok (.istore 7, 2) := by decide +kernel
theorem dX11_takeSegment_61 : decode cX11_takeSegment 61 = .ok (.iload 7, 2) := by decide +kernel
theorem dX11_takeSegment_63 : decode cX11_takeSegment 63 = .ok (.ifCond .lt 80, 3) := by decide +kernel
theorem dX11_takeSegment_66 : decode cX11_takeSegment 66 = .ok (.aload_n 3, 1) := by decide +kernel
theorem dX11_takeSegment_67 : decode cX11_takeSegment 67 = .ok (.iload 7, 2) := by decide +kernel
theorem dX11_takeSegment_69 : decode cX11_takeSegment 69 = .ok (.invokevirtual 864, 3) := by decide +kernel
theorem dX11_takeSegment_72 : decode cX11_takeSegment 72 = .ok (.astore 6, 2) := by decide +kernel
theorem dX11_takeSegment_74 : decode cX11_takeSegment 74 = .ok (.aload 6, 2) := by decide +kernel
theorem dX11_takeSegment_76 : decode cX11_takeSegment 76 = .ok (.ifnonnull 4, 3) := by decide +kernel
theorem dX11_takeSegment_79 : decode cX11_takeSegment 79 = .ok (.return_, 1) := by decide +kernel
theorem dX11_takeSegment_80 : decode cX11_takeSegment 80 = .ok (.aload 6, 2) := by decide +kernel
theorem dX11_takeSegment_82 : decode cX11_takeSegment 82 = .ok (.iload 4, 2) := by decide +kernel
theorem dX11_takeSegment_84 : decode cX11_takeSegment 84 = .ok (.aload_n 2, 1) := by decide +kernel
theorem dX11_takeSegment_85 : decode cX11_takeSegment 85 = .ok (.getfield 535, 3) := by decide +kernel
theorem dX11_takeSegment_88 : decode cX11_takeSegment 88 = .ok (.iload 5, 2) := by decide +kernel
theorem dX11_takeSegment_90 : decode cX11_takeSegment 90 = .ok (.invokevirtual 246, 3) := by decide +kernel
theorem dX11_takeSegment_93 : decode cX11_takeSegment 93 = .ok (.aload 6, 2) := by decide +kernel
theorem dX11_takeSegment_95 : decode cX11_takeSegment 95 = .ok (.iconst 1, 1) := by decide +kernel
theorem dX11_takeSegment_96 : decode cX11_takeSegment 96 = .ok (.putfield 851, 3) := by decide +kernel
theorem dX11_takeSegment_99 : decode cX11_takeSegment 99 = .ok (.aload 6, 2) := by decide +kernel
theorem dX11_takeSegment_101 : decode cX11_takeSegment 101 = .ok (.iload 7, 2) := by decide +kernel
theorem dX11_takeSegment_103 : decode cX11_takeSegment 103 = .ok (.putfield 284, 3) := by decide +kernel
theorem dX11_takeSegment_106 : decode cX11_takeSegment 106 = .ok (.aload_n 0, 1) := by decide +kernel
theorem dX11_takeSegment_107 : decode cX11_takeSegment 107 = .ok (.dup, 1) := by decide +kernel
theorem dX11_takeSegment_108 : decode cX11_takeSegment 108 = .ok (.getfield 250, 3) := by decide +kernel
theorem dX11_takeSegment_111 : decode cX11_takeSegment 111 = .ok (.iconst 1, 1) := by decide +kernel
theorem dX11_takeSegment_112 : decode cX11_takeSegment 112 = .ok (.iadd, 1) := by decide +kernel
theorem dX11_takeSegment_113 : decode cX11_takeSegment 113 = .ok (.putfield 250, 3) := by decide +kernel
theorem dX11_takeSegment_116 : decode cX11_takeSegment 116 = .ok (.aload 6, 2) := by decide +kernel
theorem dX11_takeSegment_118 : decode cX11_takeSegment 118 = .ok (.getfield 253, 3) := by decide +kernel
theorem dX11_takeSegment_121 : decode cX11_takeSegment 121 = .ok (.aload_n 0, 1) := by decide +kernel
theorem dX11_takeSegment_122 : decode cX11_takeSegment 122 = .ok (.aload_n 3, 1) := by decide +kernel
theorem dX11_takeSegment_123 : decode cX11_takeSegment 123 = .ok (.invokevirtual 257, 3) := by decide +kernel
theorem dX11_takeSegment_126 : decode cX11_takeSegment 126 = .ok (.aload_n 1, 1) := by decide +kernel
theorem dX11_takeSegment_127 : decode cX11_takeSegment 127 = .ok (.getfield 261, 3) := by decide +kernel
theorem dX11_takeSegment_130 : decode cX11_takeSegment 130 = .ok (.getfield 90, 3) := by decide +kernel
theorem dX11_takeSegment_133 : decode cX11_takeSegment 133 = .ok (.bipush 40, 2) := by decide +kernel
theorem dX11_takeSegment_135 : decode cX11_takeSegment 135 = .ok (.isub, 1) := by decide +kernel
theorem dX11_takeSegment_136 : decode cX11_takeSegment 136 = .ok (.aload_n 0, 1) := by decide +kernel
theorem dX11_takeSegment_137 : decode cX11_takeSegment 137 = .ok (.getfield 250, 3) := by decide +kernel
theorem dX11_takeSegment_140 : decode cX11_takeSegment 140 = .ok (.invokevirtual 265, 3) := by decide +kernel
theorem dX11_takeSegment_143 : decode cX11_takeSegment 143 = .ok (.aload 6, 2) := by decide +kernel
theorem dX11_takeSegment_145 : decode cX11_takeSegment 145 = .ok (.ifnonnull 12, 3) := by decide +kernel
theorem dX11_takeSegment_148 : decode cX11_takeSegment 148 = .ok (.aload_n 0, 1) := by decide +kernel
theorem dX11_takeSegment_149 : decode cX11_takeSegment 149 = .ok (.aload_n 1, 1) := by decide +kernel
theorem dX11_takeSegment_150 : decode cX11_takeSegment 150 = .ok (.aload_n 2, 1) := by decide +kernel
theorem dX11_takeSegment_151 : decode cX11_takeSegment 151 = .ok (.invokevirtual 868, 3) := by decide +kernel
theorem dX11_takeSegment_154 : decode cX11_takeSegment 154 = .ok (.goto 84, 3) := by decide +kernel
theorem dX11_takeSegment_157 : decode cX11_takeSegment 157 = .ok (.aload 6, 2) := by decide +kernel
theorem dX11_takeSegment_159 : decode cX11_takeSegment 159 = .ok (.getfield 253, 3) := by decide +kernel
theorem dX11_takeSegment_162 : decode cX11_takeSegment 162 = .ok (.getfield 290, 3) := by decide +kernel
theorem dX11_takeSegment_165 : decode cX11_takeSegment 165 = .ok (.iconst 1, 1) := by decide +kernel
theorem dX11_takeSegment_166 : decode cX11_takeSegment 166 = .ok (.if_icmp .ne 15, 3) := by decide +kernel
theorem dX11_takeSegment_169 : decode cX11_takeSegment 169 = .ok (.aload 6, 2) := by decide +kernel
theorem dX11_takeSegment_171 : decode cX11_takeSegment 171 = .ok (.getfield 253, 3) := by decide +kernel
theorem dX11_takeSegment_174 : decode cX11_takeSegment 174 = .ok (.aload_n 2, 1) := by decide +kernel
theorem dX11_takeSegment_175 : decode cX11_takeSegment 175 = .ok (.invokevirtual 871, 3) := by decide +kernel
theorem dX11_takeSegment_178 : decode cX11_takeSegment 178 = .ok (.goto 60, 3) := by decide +kernel
theorem dX11_takeSegment_181 : decode cX11_takeSegment 181 = .ok (.aload 6, 2) := by decide +kernel
theorem dX11_takeSegment_183 : decode cX11_takeSegment 183 = .ok (.getfield 253, 3) := by decide +kernel
theorem dX11_takeSegment_186 : decode cX11_takeSegment 186 = .ok (.getfield 290, 3) := by decide +kernel
theorem dX11_takeSegment_189 : decode cX11_takeSegment 189 = .ok (.iconst 2, 1) := by decide +kernel
theorem dX11_takeSegment_190 : decode cX11_takeSegment 190 = .ok (.if_icmp .ne 19, 3) := by decide +kernel
theorem dX11_takeSegment_193 : decode cX11_takeSegment 193 = .ok (.aload 6, 2) := by decide +kernel
theorem dX11_takeSegment_195 : decode cX11_takeSegment 195 = .ok (.getfield 253, 3) := by decide +kernel
theorem dX11_takeSegment_198 : decode cX11_takeSegment 198 = .ok (.aload_n 2, 1) := by decide +kernel
theorem dX11_takeSegment_199 : decode cX11_takeSegment 199 = .ok (.aload_n 0, 1) := by decide +kernel
theorem dX11_takeSegment_200 : decode cX11_takeSegment 200 = .ok (.getfield 176, 3) := by decide +kernel
theorem dX11_takeSegment_203 : decode cX11_takeSegment 203 = .ok (.invokevirtual 874, 3) := by decide +kernel
theorem dX11_takeSegment_206 : decode cX11_takeSegment 206 = .ok (.goto 32, 3) := by decide +kernel
theorem dX11_takeSegment_209 : decode cX11_takeSegment 209 = .ok (.aload 6, 2) := by decide +kernel
theorem dX11_takeSegment_211 : decode cX11_takeSegment 211 = .ok (.getfield 253, 3) := by decide +kernel
theorem dX11_takeSegment_214 : decode cX11_takeSegment 214 = .ok (.aload_n 2, 1) := by decide +kernel
theorem dX11_takeSegment_215 : decode cX11_takeSegment 215 = .ok (.aload_n 0, 1) := by decide +kernel
theorem dX11_takeSegment_216 : decode cX11_takeSegment 216 = .ok (.getfield 176, 3) := by decide +kernel
theorem dX11_takeSegment_219 : decode cX11_takeSegment 219 = .ok (.invokevirtual 877, 3) := by decide +kernel
theorem dX11_takeSegment_222 : decode cX11_takeSegment 222 = .ok (.ifCond .eq 16, 3) := by decide +kernel
theorem dX11_takeSegment_225 : decode cX11_takeSegment 225 = .ok (.aload 6, 2) := by decide +kernel
theorem dX11_takeSegment_227 : decode cX11_takeSegment 227 = .ok (.getfield 253, 3) := by decide +kernel
theorem dX11_takeSegment_230 : decode cX11_takeSegment 230 = .ok (.aload_n 2, 1) := by decide +kernel
theorem dX11_takeSegment_231 : decode cX11_takeSegment 231 = .ok (.aload_n 0, 1) := by decide +kernel
theorem dX11_takeSegment_232 : decode cX11_takeSegment 232 = .ok (.getfield 176, 3) := by decide +kernel
theorem dX11_takeSegment_235 : decode cX11_takeSegment 235 = .ok (.invokevirtual 880, 3) := by decide +kernel
theorem dX11_takeSegment_238 : decode cX11_takeSegment 238 = .ok (.return_, 1) := by decide +kernel
theorem dX11_resetStranger_0 : decode cX11_resetStranger 0 = .ok (.aload_n 2, 1) := by decide +kernel
theorem dX11_resetStranger_1 : decode cX11_resetStranger 1 = .ok (.iconst 4, 1) := by decide +kernel
theorem dX11_resetStranger_2 : decode cX11_resetStranger 2 = .ok (.invokevirtual 883, 3) := by decide +kernel
theorem dX11_resetStranger_5 : decode cX11_resetStranger 5 = .ok (.ifCond .eq 4, 3) := by decide +kernel
theorem dX11_resetStranger_8 : decode cX11_resetStranger 8 = .ok (.return_, 1) := by decide +kernel
theorem dX11_resetStranger_9 : decode cX11_resetStranger 9 = .ok (.aload_n 0, 1) := by decide +kernel
theorem dX11_resetStranger_10 : decode cX11_resetStranger 10 = .ok (.getfield 31, 3) := by decide +kernel
theorem dX11_resetStranger_13 : decode cX11_resetStranger 13 = .ok (.aload_n 2, 1) := by decide +kernel
theorem dX11_resetStranger_14 : decode cX11_resetStranger 14 = .ok (.invokevirtual 886, 3) := by decide +kernel
theorem dX11_resetStranger_17 : decode cX11_resetStranger 17 = .ok (.aload_n 2, 1) := by decide +kernel
theorem dX11_resetStranger_18 : decode cX11_resetStranger 18 = .ok (.invokevirtual 889, 3) := by decide +kernel
theorem dX11_resetStranger_21 : decode cX11_resetStranger 21 = .ok (.aload_n 2, 1) := by decide +kernel
theorem dX11_resetStranger_22 : decode cX11_resetStranger 22 = .ok (.invokevirtual 892, 3) := by decide +kernel
theorem dX11_resetStranger_25 : decode cX11_resetStranger 25 = .ok (.iconst 0, 1) := by decide +kernel
theorem dX11_resetStranger_26 : decode cX11_resetStranger 26 = .ok (.invokevirtual 895, 3) := by decide +kernel
theorem dX11_resetStranger_29 : decode cX11_resetStranger 29 = .ok (.aload_n 0, 1) := by decide +kernel
theorem dX11_resetStranger_30 : decode cX11_resetStranger 30 = .ok (.getfield 31, 3) := by decide +kernel
theorem dX11_resetStranger_33 : decode cX11_resetStranger 33 = .ok (.aload_n 1, 1) := by decide +kernel
theorem dX11_resetStranger_34 : decode cX11_resetStranger 34 = .ok (.getfield 141, 3) := by decide +kernel
theorem dX11_resetStranger_37 : decode cX11_resetStranger 37 = .ok (.putfield 535, 3) := by decide +kernel
theorem dX11_resetStranger_40 : decode cX11_resetStranger 40 = .ok (.aload_n 0, 1) := by decide +kernel
theorem dX11_resetStranger_41 : decode cX11_resetStranger 41 = .ok (.getfield 31, 3) := by decide +kernel
theorem dX11_resetStranger_44 : decode cX11_resetStranger 44 = .ok (.aload_n 2, 1) := by decide +kernel
theorem dX11_resetStranger_45 : decode cX11_resetStranger 45 = .ok (.getfield 535, 3) := by decide +kernel
theorem dX11_resetStranger_48 : decode cX11_resetStranger 48 = .ok (.putfield 538, 3) := by decide +kernel
theorem dX11_resetStranger_51 : decode cX11_resetStranger 51 = .ok (.aload_n 0, 1) := by decide +kernel
theorem dX11_resetStranger_52 : decode cX11_resetStranger 52 = .ok (.getfield 31, 3) := by decide +kernel
theorem dX11_resetStranger_55 : decode cX11_resetStranger 55 = .ok (.iconst 0, 1) := by decide +kernel
theorem dX11_resetStranger_56 : decode cX11_resetStranger 56 = .ok (.aload_n 2, 1) := by decide +kernel
theorem dX11_resetStranger_57 : decode cX11_resetStranger 57 = .ok (.iconst 2, 1) := by decide +kernel
theorem dX11_resetStranger_58 : decode cX11_resetStranger 58 = .ok (.invokevirtual 681, 3) := by decide +kernel
theorem dX11_resetStranger_61 : decode cX11_resetStranger 61 = .ok (.invokevirtual 695, 3) := by decide +kernel
theorem dX11_resetStranger_64 : decode cX11_resetStranger 64 = .ok (.aload_n 0, 1) := by decide +kernel
theorem dX11_resetStranger_65 : decode cX11_resetStranger 65 = .ok (.getfield 31, 3) := by decide +kernel
theorem dX11_resetStranger_68 : decode cX11_resetStranger 68 = .ok (.iconst 2, 1) := by decide +kernel
theorem dX11_resetStranger_69 : decode cX11_resetStranger 69 = .ok (.aload_n 2, 1) := by decide +kernel
theorem dX11_resetStranger_70 : decode cX11_resetStranger 70 = .ok (.iconst 0, 1) := by decide +kernel
theorem dX11_resetStranger_71 : decode cX11_resetStranger 71 = .ok (.invokevirtual 681, 3) := by decide +kernel
theorem dX11_resetStranger_74 : decode cX11_resetStranger 74 = .ok (.invokevirtual 695, 3) := by decide +kernel
theorem dX11_resetStranger_77 : decode cX11_resetStranger 77 = .ok (.aload_n 0, 1) := by decide +kernel
theorem dX11_resetStranger_78 : decode cX11_resetStranger 78 = .ok (.getfield 31, 3) := by decide +kernel
theorem dX11_resetStranger_81 : decode cX11_resetStranger 81 = .ok (.aload_n 1, 1) := by decide +kernel
theorem dX11_resetStranger_82 : decode cX11_resetStranger 82 = .ok (.getfield 474, 3) := by decide +kernel
theorem dX11_resetStranger_85 : decode cX11_resetStranger 85 = .ok (.invokevirtual 688, 3) := by decide +kernel
theorem dX11_resetStranger_88 : decode cX11_resetStranger 88 = .ok (.putfield 691, 3) := by decide +kernel
theorem dX11_resetStranger_91 : decode cX11_resetStranger 91 = .ok (.aload_n 0, 1) := by decide +kernel
theorem dX11_resetStranger_92 : decode cX11_resetStranger 92 = .ok (.iconst 1, 1) := by decide +kernel
theorem dX11_resetStranger_93 : decode cX11_resetStranger 93 = .ok (.putfield 586, 3) := by decide +kernel
theorem dX11_resetStranger_96 : decode cX11_resetStranger 96 = .ok (.return_, 1) := by decide +kernel
theorem dX11_abandonThrough_0 : decode cX11_abandonThrough 0 = .ok (.iconst 0, 1) := by decide +kernel
theorem dX11_abandonThrough_1 : decode cX11_abandonThrough 1 = .ok (.istore_n 3, 1) := by decide +kernel
theorem dX11_abandonThrough_2 : decode cX11_abandonThrough 2 = .ok (.iload_n 3, 1) := by decide +kernel
theorem dX11_abandonThrough_3 : decode cX11_abandonThrough 3 = .ok (.bipush 6, 2) := by decide +kernel
theorem dX11_abandonThrough_5 : decode cX11_abandonThrough 5 = .ok (.if_icmp .ge 71, 3) := by decide +kernel
theorem dX11_abandonThrough_8 : decode cX11_abandonThrough 8 = .ok (.aload_n 1, 1) := by decide +kernel
theorem dX11_abandonThrough_9 : decode cX11_abandonThrough 9 = .ok (.getfield 220, 3) := by decide +kernel
theorem dX11_abandonThrough_12 : decode cX11_abandonThrough 12 = .ok (.iload_n 3, 1) := by decide +kernel
theorem dX11_abandonThrough_13 : decode cX11_abandonThrough 13 = .ok (.aaload, 1) := by decide +kernel
theorem dX11_abandonThrough_14 : decode cX11_abandonThrough 14 = .ok (.astore 4, 2) := by decide +kernel
theorem dX11_abandonThrough_16 : decode cX11_abandonThrough 16 = .ok (.aload 4, 2) := by decide +kernel
theorem dX11_abandonThrough_18 : decode cX11_abandonThrough 18 = .ok (.getfield 279, 3) := by decide +kernel
theorem dX11_abandonThrough_21 : decode cX11_abandonThrough 21 = .ok (.iconst 2, 1) := by decide +kernel
theorem dX11_abandonThrough_22 : decode cX11_abandonThrough 22 = .ok (.if_icmp .ne 48, 3) := by decide +kernel
theorem dX11_abandonThrough_25 : decode cX11_abandonThrough 25 = .ok (.aload 4, 2) := by decide +kernel
theorem dX11_abandonThrough_27 : decode cX11_abandonThrough 27 = .ok (.getfield 284, 3) := by decide +kernel
theorem dX11_abandonThrough_30 : decode cX11_abandonThrough 30 = .ok (.iload_n 2, 1) := by decide +kernel
theorem dX11_abandonThrough_31 : decode cX11_abandonThrough 31 = .ok (.if_icmp .eq 6, 3) := by decide +kernel
theorem dX11_abandonThrough_34 : decode cX11_abandonThrough 34 = .ok (.goto 36, 3) := by decide +kernel
theorem dX11_abandonThrough_37 : decode cX11_abandonThrough 37 = .ok (.aload 4, 2) := by decide +kernel
theorem dX11_abandonThrough_39 : decode cX11_abandonThrough 39 = .ok (.iconst (-1), 1) := by decide +kernel
theorem dX11_abandonThrough_40 : decode cX11_abandonThrough 40 = .ok (.putfield 284, 3) := by decide +kernel
theorem dX11_abandonThrough_43 : decode cX11_abandonThrough 43 = .ok (.aload 4, 2) := by decide +kernel
theorem dX11_abandonThrough_45 : decode cX11_abandonThrough 45 = .ok (.getfield 287, 3) := by decide +kernel
theorem dX11_abandonThrough_48 : decode cX11_abandonThrough 48 = .ok (.ifCond .ne 22, 3) := by decide +kernel
theorem dX11_abandonThrough_51 : decode cX11_abandonThrough 51 = .ok (.aload 4, 2) := by decide +kernel
theorem dX11_abandonThrough_53 : decode cX11_abandonThrough 53 = .ok (.getfield 253, 3) := by decide +kernel
theorem dX11_abandonThrough_56 : decode cX11_abandonThrough 56 = .ok (.invokevirtual 355, 3) := by decide +kernel
theorem dX11_abandonThrough_59 : decode cX11_abandonThrough 59 = .ok (.ifCond .ne 11, 3) := by decide +kernel
theorem dX11_abandonThrough_62 : decode cX11_abandonThrough 62 = .ok (.aload 4, 2) := by decide +kernel
theorem dX11_abandonThrough_64 : decode cX11_abandonThrough 64 = .ok (.getfield 253, 3) := by decide +kernel
theorem dX11_abandonThrough_67 : decode cX11_abandonThrough 67 = .ok (.invokevirtual 373, 3) := by decide +kernel
theorem dX11_abandonThrough_70 : decode cX11_abandonThrough 70 = .ok (.iinc 3 1, 3) := by decide +kernel
theorem dX11_abandonThrough_73 : decode cX11_abandonThrough 73 = .ok (.goto (-71), 3) := by decide +kernel
theorem dX11_abandonThrough_76 : decode cX11_abandonThrough 76 = .ok (.return_, 1) := by decide +kernel
theorem dX11_wroteTo_0 : decode cX11_wroteTo 0 = .ok (.aload_n 1, 1) := by decide +kernel
theorem dX11_wroteTo_1 : decode cX11_wroteTo 1 = .ok (.getfield 253, 3) := by decide +kernel
theorem dX11_wroteTo_4 : decode cX11_wroteTo 4 = .ok (.aload_n 0, 1) := by decide +kernel
theorem dX11_wroteTo_5 : decode cX11_wroteTo 5 = .ok (.getfield 176, 3) := by decide +kernel
theorem dX11_wroteTo_8 : decode cX11_wroteTo 8 = .ok (.invokevirtual 366, 3) := by decide +kernel
theorem dX11_wroteTo_11 : decode cX11_wroteTo 11 = .ok (.aload_n 0, 1) := by decide +kernel
theorem dX11_wroteTo_12 : decode cX11_wroteTo 12 = .ok (.invokevirtual 75, 3) := by decide +kernel
theorem dX11_wroteTo_15 : decode cX11_wroteTo 15 = .ok (.return_, 1) := by decide +kernel
theorem dX11_noteWriting_0 : decode cX11_noteWriting 0 = .ok (.aload_n 0, 1) := by decide +kernel
theorem dX11_noteWriting_1 : decode cX11_noteWriting 1 = .ok (.getfield 899, 3) := by decide +kernel
theorem dX11_noteWriting_4 : decode cX11_noteWriting 4 = .ok (.sipush 512, 3) := by decide +kernel
theorem dX11_noteWriting_7 : decode cX11_noteWriting 7 = .ok (.if_icmp .lt 4, 3) := by decide +kernel
theorem dX11_noteWriting_10 : decode cX11_noteWriting 10 = .ok (.return_, 1) := by decide +kernel
theorem dX11_noteWriting_11 : decode cX11_noteWriting 11 = .ok (.aload_n 0, 1) := by decide +kernel
theorem dX11_noteWriting_12 : decode cX11_noteWriting 12 = .ok (.getfield 38, 3) := by decide +kernel
theorem dX11_noteWriting_15 : decode cX11_noteWriting 15 = .ok (.aload_n 0, 1) := by decide +kernel
theorem dX11_noteWriting_16 : decode cX11_noteWriting 16 = .ok (.getfield 899, 3) := by decide +kernel
theorem dX11_noteWriting_19 : decode cX11_noteWriting 19 = .ok (.aload_n 1, 1) := by decide +kernel
theorem dX11_noteWriting_20 : decode cX11_noteWriting 20 = .ok (.getfield 847, 3) := by decide +kernel
theorem dX11_noteWriting_23 : decode cX11_noteWriting 23 = .ok (.iastore, 1) := by decide +kernel
theorem dX11_noteWriting_24 : decode cX11_noteWriting 24 = .ok (.aload_n 0, 1) := by decide +kernel
theorem dX11_noteWriting_25 : decode cX11_noteWriting 25 = .ok (.getfield 42, 3) := by decide +kernel
theorem dX11_noteWriting_28 : decode cX11_noteWriting 28 = .ok (.aload_n 0, 1) := by decide +kernel
theorem dX11_noteWriting_29 : decode cX11_noteWriting 29 = .ok (.getfield 899, 3) := by decide +kernel
theorem dX11_noteWriting_32 : decode cX11_noteWriting 32 = .ok (.iload_n 2, 1) := by decide +kernel
theorem dX11_noteWriting_33 : decode cX11_noteWriting 33 = .ok (.iastore, 1) := by decide +kernel
theorem dX11_noteWriting_34 : decode cX11_noteWriting 34 = .ok (.aload_n 0, 1) := by decide +kernel
theorem dX11_noteWriting_35 : decode cX11_noteWriting 35 = .ok (.getfield 45, 3) := by decide +kernel
theorem dX11_noteWriting_38 : decode cX11_noteWriting 38 = .ok (.aload_n 0, 1) := by decide +kernel
theorem dX11_noteWriting_39 : decode cX11_noteWriting 39 = .ok (.getfield 899, 3) := by decide +kernel
theorem dX11_noteWriting_42 : decode cX11_noteWriting 42 = .ok (.lload_n 3, 1) := by decide +kernel
theorem dX11_noteWriting_43 : decode cX11_noteWriting 43 = .ok (.lastore, 1) := by decide +kernel
theorem dX11_noteWriting_44 : decode cX11_noteWriting 44 = .ok (.aload_n 0, 1) := by decide +kernel
theorem dX11_noteWriting_45 : decode cX11_noteWriting 45 = .ok (.dup, 1) := by decide +kernel
theorem dX11_noteWriting_46 : decode cX11_noteWriting 46 = .ok (.getfield 899, 3) := by decide +kernel
theorem dX11_noteWriting_49 : decode cX11_noteWriting 49 = .ok (.iconst 1, 1) := by decide +kernel
theorem dX11_noteWriting_50 : decode cX11_noteWriting 50 = .ok (.iadd, 1) := by decide +kernel
theorem dX11_noteWriting_51 : decode cX11_noteWriting 51 = .ok (.putfield 899, 3) := by decide +kernel
theorem dX11_noteWriting_54 : decode cX11_noteWriting 54 = .ok (.return_, 1) := by decide +kernel
theorem dX11_takeByte_0 : decode cX11_takeByte 0 = .ok (.aload_n 1, 1) := by decide +kernel
theorem dX11_takeByte_1 : decode cX11_takeByte 1 = .ok (.getfield 253, 3) := by decide +kernel
theorem dX11_takeByte_4 : decode cX11_takeByte 4 = .ok (.invokevirtual 902, 3) := by decide +kernel
theorem dX11_takeByte_7 : decode cX11_takeByte 7 = .ok (.istore_n 2, 1) := by decide +kernel
theorem dX11_takeByte_8 : decode cX11_takeByte 8 = .ok (.iload_n 2, 1) := by decide +kernel
theorem dX11_takeByte_9 : decode cX11_takeByte 9 = .ok (.aload_n 0, 1) := by decide +kernel
theorem dX11_takeByte_10 : decode cX11_takeByte 10 = .ok (.aload_n 1, 1) := by decide +kernel
theorem dX11_takeByte_11 : decode cX11_takeByte 11 = .ok (.invokevirtual 904, 3) := by decide +kernel
theorem dX11_takeByte_14 : decode cX11_takeByte 14 = .ok (.if_icmp .eq 13, 3) := by decide +kernel
theorem dX11_takeByte_17 : decode cX11_takeByte 17 = .ok (.aload_n 0, 1) := by decide +kernel
theorem dX11_takeByte_18 : decode cX11_takeByte 18 = .ok (.dup, 1) := by decide +kernel
theorem dX11_takeByte_19 : decode cX11_takeByte 19 = .ok (.getfield 452, 3) := by decide +kernel
theorem dX11_takeByte_22 : decode cX11_takeByte 22 = .ok (.iconst 1, 1) := by decide +kernel
theorem dX11_takeByte_23 : decode cX11_takeByte 23 = .ok (.iadd, 1) := by decide +kernel
theorem dX11_takeByte_24 : decode cX11_takeByte 24 = .ok (.putfield 452, 3) := by decide +kernel
theorem dX11_takeByte_27 : decode cX11_takeByte 27 = .ok (.iload_n 2, 1) := by decide +kernel
theorem dX11_takeByte_28 : decode cX11_takeByte 28 = .ok (.ireturn, 1) := by decide +kernel
theorem dX11_nextWritten_0 : decode cX11_nextWritten 0 = .ok (.aload_n 1, 1) := by decide +kernel
theorem dX11_nextWritten_1 : decode cX11_nextWritten 1 = .ok (.getfield 907, 3) := by decide +kernel
theorem dX11_nextWritten_4 : decode cX11_nextWritten 4 = .ok (.istore_n 2, 1) := by decide +kernel
theorem dX11_nextWritten_5 : decode cX11_nextWritten 5 = .ok (.iload_n 2, 1) := by decide +kernel
theorem dX11_nextWritten_6 : decode cX11_nextWritten 6 = .ok (.aload_n 0, 1) := by decide +kernel
theorem dX11_nextWritten_7 : decode cX11_nextWritten 7 = .ok (.getfield 899, 3) := by decide +kernel
theorem dX11_nextWritten_10 : decode cX11_nextWritten 10 = .ok (.if_icmp .ge 149, 3) := by decide +kernel
theorem dX11_nextWritten_13 : decode cX11_nextWritten 13 = .ok (.iload_n 2, 1) := by decide +kernel
theorem dX11_nextWritten_14 : decode cX11_nextWritten 14 = .ok (.aload_n 1, 1) := by decide +kernel
theorem dX11_nextWritten_15 : decode cX11_nextWritten 15 = .ok (.getfield 907, 3) := by decide +kernel
theorem dX11_nextWritten_18 : decode cX11_nextWritten 18 = .ok (.if_icmp .eq 13, 3) := by decide +kernel
theorem dX11_nextWritten_21 : decode cX11_nextWritten 21 = .ok (.aload_n 1, 1) := by decide +kernel
theorem dX11_nextWritten_22 : decode cX11_nextWritten 22 = .ok (.iload_n 2, 1) := by decide +kernel
theorem dX11_nextWritten_23 : decode cX11_nextWritten 23 = .ok (.putfield 907, 3) := by decide +kernel
theorem dX11_nextWritten_26 : decode cX11_nextWritten 26 = .ok (.aload_n 1, 1) := by decide +kernel
theorem dX11_nextWritten_27 : decode cX11_nextWritten 27 = .ok (.iconst 0, 1) := by decide +kernel
theorem dX11_nextWritten_28 : decode cX11_nextWritten 28 = .ok (.putfield 910, 3) := by decide +kernel
theorem dX11_nextWritten_31 : decode cX11_nextWritten 31 = .ok (.aload_n 0, 1) := by decide +kernel
theorem dX11_nextWritten_32 : decode cX11_nextWritten 32 = .ok (.getfield 42, 3) := by decide +kernel
theorem dX11_nextWritten_35 : decode cX11_nextWritten 35 = .ok (.iload_n 2, 1) := by decide +kernel
theorem dX11_nextWritten_36 : decode cX11_nextWritten 36 = .ok (.iaload, 1) := by decide +kernel
theorem dX11_nextWritten_37 : decode cX11_nextWritten 37 = .ok (.sipush 4095, 3) := by decide +kernel
theorem dX11_nextWritten_40 : decode cX11_nextWritten 40 = .ok (.iand, 1) := by decide +kernel
theorem dX11_nextWritten_41 : decode cX11_nextWritten 41 = .ok (.istore_n 3, 1) := by decide +kernel
theorem dX11_nextWritten_42 : decode cX11_nextWritten 42 = .ok (.aload_n 0, 1) := by decide +kernel
theorem dX11_nextWritten_43 : decode cX11_nextWritten 43 = .ok (.getfield 38, 3) := by decide +kernel
theorem dX11_nextWritten_46 : decode cX11_nextWritten 46 = .ok (.iload_n 2, 1) := by decide +kernel
theorem dX11_nextWritten_47 : decode cX11_nextWritten 47 = .ok (.iaload, 1) := by decide +kernel
theorem dX11_nextWritten_48 : decode cX11_nextWritten 48 = .ok (.aload_n 1, 1) := by decide +kernel
theorem dX11_nextWritten_49 : decode cX11_nextWritten 49 = .ok (.getfield 253, 3) := by decide +kernel
theorem dX11_nextWritten_52 : decode cX11_nextWritten 52 = .ok (.getfield 913, 3) := by decide +kernel
theorem dX11_nextWritten_55 : decode cX11_nextWritten 55 = .ok (.if_icmp .ne 98, 3) := by decide +kernel
theorem dX11_nextWritten_58 : decode cX11_nextWritten 58 = .ok (.aload_n 1, 1) := by decide +kernel
theorem dX11_nextWritten_59 : decode cX11_nextWritten 59 = .ok (.getfield 910, 3) := by decide +kernel
theorem dX11_nextWritten_62 : decode cX11_nextWritten 62 = .ok (.iload_n 3, 1) := by decide +kernel
theorem dX11_nextWritten_63 : decode cX11_nextWritten 63 = .ok (.if_icmp .lt 6, 3) := by decide +kernel
theorem dX11_nextWritten_66 : decode cX11_nextWritten 66 = .ok (.goto 87, 3) := by decide +kernel
theorem dX11_nextWritten_69 : decode cX11_nextWritten 69 = .ok (.aload_n 1, 1) := by decide +kernel
theorem dX11_nextWritten_70 : decode cX11_nextWritten 70 = .ok (.getfield 910, 3) := by decide +kernel
theorem dX11_nextWritten_73 : decode cX11_nextWritten 73 = .ok (.istore 4, 2) := by decide +kernel
theorem dX11_nextWritten_75 : decode cX11_nextWritten 75 = .ok (.aload_n 1, 1) := by decide +kernel
theorem dX11_nextWritten_76 : decode cX11_nextWritten 76 = .ok (.dup, 1) := by decide +kernel
theorem dX11_nextWritten_77 : decode cX11_nextWritten 77 = .ok (.getfield 910, 3) := by decide +kernel
theorem dX11_nextWritten_80 : decode cX11_nextWritten 80 = .ok (.iconst 1, 1) := by decide +kernel
theorem dX11_nextWritten_81 : decode cX11_nextWritten 81 = .ok (.iadd, 1) := by decide +kernel
theorem dX11_nextWritten_82 : decode cX11_nextWritten 82 = .ok (.putfield 910, 3) := by decide +kernel
theorem dX11_nextWritten_85 : decode cX11_nextWritten 85 = .ok (.aload_n 0, 1) := by decide +kernel
theorem dX11_nextWritten_86 : decode cX11_nextWritten 86 = .ok (.getfield 42, 3) := by decide +kernel
theorem dX11_nextWritten_89 : decode cX11_nextWritten 89 = .ok (.iload_n 2, 1) := by decide +kernel
theorem dX11_nextWritten_90 : decode cX11_nextWritten 90 = .ok (.iaload, 1) := by decide +kernel
theorem dX11_nextWritten_91 : decode cX11_nextWritten 91 = .ok (.sipush 4096, 3) := by decide +kernel
theorem dX11_nextWritten_94 : decode cX11_nextWritten 94 = .ok (.if_icmp .ge 25, 3) := by decide +kernel
theorem dX11_nextWritten_97 : decode cX11_nextWritten 97 = .ok (.aload_n 0, 1) := by decide +kernel
theorem dX11_nextWritten_98 : decode cX11_nextWritten 98 = .ok (.getfield 45, 3) := by decide +kernel
theorem dX11_nextWritten_101 : decode cX11_nextWritten 101 = .ok (.iload_n 2, 1) := by decide +kernel
theorem dX11_nextWritten_102 : decode cX11_nextWritten 102 = .ok (.laload, 1) := by decide +kernel
theorem dX11_nextWritten_103 : decode cX11_nextWritten 103 = .ok (.bipush 8, 2) := by decide +kernel
theorem dX11_nextWritten_105 : decode cX11_nextWritten 105 = .ok (.iload_n 3, 1) := by decide +kernel
theorem dX11_nextWritten_106 : decode cX11_nextWritten 106 = .ok (.iconst 1, 1) := by decide +kernel
theorem dX11_nextWritten_107 : decode cX11_nextWritten 107 = .ok (.isub, 1) := by decide +kernel
theorem dX11_nextWritten_108 : decode cX11_nextWritten 108 = .ok (.iload 4, 2) := by decide +kernel
theorem dX11_nextWritten_110 : decode cX11_nextWritten 110 = .ok (.isub, 1) := by decide +kernel
theorem dX11_nextWritten_111 : decode cX11_nextWritten 111 = .ok (.imul, 1) := by decide +kernel
theorem dX11_nextWritten_112 : decode cX11_nextWritten 112 = .ok (.lushr, 1) := by decide +kernel
theorem dX11_nextWritten_113 : decode cX11_nextWritten 113 = .ok (.l2i, 1) := by decide +kernel
theorem dX11_nextWritten_114 : decode cX11_nextWritten 114 = .ok (.sipush 255, 3) := by decide +kernel
theorem dX11_nextWritten_117 : decode cX11_nextWritten 117 = .ok (.iand, 1) := by decide +kernel
theorem dX11_nextWritten_118 : decode cX11_nextWritten 118 = .ok (.ireturn, 1) := by decide +kernel
theorem dX11_nextWritten_119 : decode cX11_nextWritten 119 = .ok (.aload_n 0, 1) := by decide +kernel
theorem dX11_nextWritten_120 : decode cX11_nextWritten 120 = .ok (.getfield 45, 3) := by decide +kernel
theorem dX11_nextWritten_123 : decode cX11_nextWritten 123 = .ok (.iload_n 2, 1) := by decide +kernel
theorem dX11_nextWritten_124 : decode cX11_nextWritten 124 = .ok (.laload, 1) := by decide +kernel
theorem dX11_nextWritten_125 : decode cX11_nextWritten 125 = .ok (.bipush 8, 2) := by decide +kernel
theorem dX11_nextWritten_127 : decode cX11_nextWritten 127 = .ok (.lushr, 1) := by decide +kernel
theorem dX11_nextWritten_128 : decode cX11_nextWritten 128 = .ok (.l2i, 1) := by decide +kernel
theorem dX11_nextWritten_129 : decode cX11_nextWritten 129 = .ok (.sipush 255, 3) := by decide +kernel
theorem dX11_nextWritten_132 : decode cX11_nextWritten 132 = .ok (.iand, 1) := by decide +kernel
theorem dX11_nextWritten_133 : decode cX11_nextWritten 133 = .ok (.istore 5, 2) := by decide +kernel
theorem dX11_nextWritten_135 : decode cX11_nextWritten 135 = .ok (.aload_n 0, 1) := by decide +kernel
theorem dX11_nextWritten_136 : decode cX11_nextWritten 136 = .ok (.getfield 45, 3) := by decide +kernel
theorem dX11_nextWritten_139 : decode cX11_nextWritten 139 = .ok (.iload_n 2, 1) := by decide +kernel
theorem dX11_nextWritten_140 : decode cX11_nextWritten 140 = .ok (.laload, 1) := by decide +kernel
theorem dX11_nextWritten_141 : decode cX11_nextWritten 141 = .ok (.l2i, 1) := by decide +kernel
theorem dX11_nextWritten_142 : decode cX11_nextWritten 142 = .ok (.iload 4, 2) := by decide +kernel
theorem dX11_nextWritten_144 : decode cX11_nextWritten 144 = .ok (.iload 5, 2) := by decide +kernel
theorem dX11_nextWritten_146 : decode cX11_nextWritten 146 = .ok (.imul, 1) := by decide +kernel
theorem dX11_nextWritten_147 : decode cX11_nextWritten 147 = .ok (.iadd, 1) := by decide +kernel
theorem dX11_nextWritten_148 : decode cX11_nextWritten 148 = .ok (.sipush 255, 3) := by decide +kernel
theorem dX11_nextWritten_151 : decode cX11_nextWritten 151 = .ok (.iand, 1) := by decide +kernel
theorem dX11_nextWritten_152 : decode cX11_nextWritten 152 = .ok (.ireturn, 1) := by decide +kernel
theorem dX11_nextWritten_153 : decode cX11_nextWritten 153 = .ok (.iinc 2 1, 3) := by decide +kernel
theorem dX11_nextWritten_156 : decode cX11_nextWritten 156 = .ok (.goto (-151), 3) := by decide +kernel
theorem dX11_nextWritten_159 : decode cX11_nextWritten 159 = .ok (.iconst (-1), 1) := by decide +kernel
theorem dX11_nextWritten_160 : decode cX11_nextWritten 160 = .ok (.ireturn, 1) := by decide +kernel
theorem dX12_init_0 : decode cX12_init 0 = .ok (.aload_n 0, 1) := by decide +kernel
theorem dX12_init_1 : decode cX12_init 1 = .ok (.invokespecial 3, 3) := by decide +kernel
theorem dX12_init_4 : decode cX12_init 4 = .ok (.aload_n 0, 1) := by decide +kernel
theorem dX12_init_5 : decode cX12_init 5 = .ok (.bipush 6, 2) := by decide +kernel
theorem dX12_init_7 : decode cX12_init 7 = .ok (.anewarray 9, 3) := by decide +kernel
theorem dX12_init_10 : decode cX12_init 10 = .ok (.putfield 11, 3) := by decide +kernel
theorem dX12_init_13 : decode cX12_init 13 = .ok (.aload_n 0, 1) := by decide +kernel
theorem dX12_init_14 : decode cX12_init 14 = .ok (.iconst 4, 1) := by decide +kernel
theorem dX12_init_15 : decode cX12_init 15 = .ok (.anewarray 17, 3) := by decide +kernel
theorem dX12_init_18 : decode cX12_init 18 = .ok (.putfield 19, 3) := by decide +kernel
theorem dX12_init_21 : decode cX12_init 21 = .ok (.aload_n 0, 1) := by decide +kernel
theorem dX12_init_22 : decode cX12_init 22 = .ok (.bipush 16, 2) := by decide +kernel
theorem dX12_init_24 : decode cX12_init 24 = .ok (.anewarray 23, 3) := by decide +kernel
theorem dX12_init_27 : decode cX12_init 27 = .ok (.putfield 25, 3) := by decide +kernel
theorem dX12_init_30 : decode cX12_init 30 = .ok (.aload_n 0, 1) := by decide +kernel
theorem dX12_init_31 : decode cX12_init 31 = .ok (.bipush 16, 2) := by decide +kernel
theorem dX12_init_33 : decode cX12_init 33 = .ok (.newarray .int, 2) := by decide +kernel
theorem dX12_init_35 : decode cX12_init 35 = .ok (.putfield 29, 3) := by decide +kernel
theorem dX12_init_38 : decode cX12_init 38 = .ok (.aload_n 0, 1) := by decide +kernel
theorem dX12_init_39 : decode cX12_init 39 = .ok (.bipush 16, 2) := by decide +kernel
theorem dX12_init_41 : decode cX12_init 41 = .ok (.newarray .int, 2) := by decide +kernel
theorem dX12_init_43 : decode cX12_init 43 = .ok (.putfield 33, 3) := by decide +kernel
theorem dX12_init_46 : decode cX12_init 46 = .ok (.aload_n 0, 1) := by decide +kernel
theorem dX12_init_47 : decode cX12_init 47 = .ok (.ldc 36, 2) := by decide +kernel
theorem dX12_init_49 : decode cX12_init 49 = .ok (.putfield 37, 3) := by decide +kernel
theorem dX12_init_52 : decode cX12_init 52 = .ok (.aload_n 0, 1) := by decide +kernel
theorem dX12_init_53 : decode cX12_init 53 = .ok (.bipush 64, 2) := by decide +kernel
theorem dX12_init_55 : decode cX12_init 55 = .ok (.newarray .int, 2) := by decide +kernel
theorem dX12_init_57 : decode cX12_init 57 = .ok (.putfield 41, 3) := by decide +kernel
theorem dX12_init_60 : decode cX12_init 60 = .ok (.aload_n 0, 1) := by decide +kernel
theorem dX12_init_61 : decode cX12_init 61 = .ok (.bipush 64, 2) := by decide +kernel
theorem dX12_init_63 : decode cX12_init 63 = .ok (.newarray .int, 2) := by decide +kernel
theorem dX12_init_65 : decode cX12_init 65 = .ok (.putfield 44, 3) := by decide +kernel
theorem dX12_init_68 : decode cX12_init 68 = .ok (.aload_n 0, 1) := by decide +kernel
theorem dX12_init_69 : decode cX12_init 69 = .ok (.bipush 64, 2) := by decide +kernel
theorem dX12_init_71 : decode cX12_init 71 = .ok (.newarray .int, 2) := by decide +kernel
theorem dX12_init_73 : decode cX12_init 73 = .ok (.putfield 47, 3) := by decide +kernel
theorem dX12_init_76 : decode cX12_init 76 = .ok (.aload_n 0, 1) := by decide +kernel
theorem dX12_init_77 : decode cX12_init 77 = .ok (.iconst 1, 1) := by decide +kernel
theorem dX12_init_78 : decode cX12_init 78 = .ok (.putfield 50, 3) := by decide +kernel
theorem dX12_init_81 : decode cX12_init 81 = .ok (.aload_n 0, 1) := by decide +kernel
theorem dX12_init_82 : decode cX12_init 82 = .ok (.iconst 1, 1) := by decide +kernel
theorem dX12_init_83 : decode cX12_init 83 = .ok (.putfield 54, 3) := by decide +kernel
theorem dX12_init_86 : decode cX12_init 86 = .ok (.aload_n 0, 1) := by decide +kernel
theorem dX12_init_87 : decode cX12_init 87 = .ok (.bipush 24, 2) := by decide +kernel
theorem dX12_init_89 : decode cX12_init 89 = .ok (.newarray .int, 2) := by decide +kernel
theorem dX12_init_91 : decode cX12_init 91 = .ok (.putfield 57, 3) := by decide +kernel
theorem dX12_init_94 : decode cX12_init 94 = .ok (.aload_n 0, 1) := by decide +kernel
theorem dX12_init_95 : decode cX12_init 95 = .ok (.bipush 24, 2) := by decide +kernel
theorem dX12_init_97 : decode cX12_init 97 = .ok (.newarray .int, 2) := by decide +kernel
theorem dX12_init_99 : decode cX12_init 99 = .ok (.putfield 60, 3) := by decide +kernel
theorem dX12_init_102 : decode cX12_init 102 = .ok (.aload_n 0, 1) := by decide +kernel
theorem dX12_init_103 : decode cX12_init 103 = .ok (.bipush 24, 2) := by decide +kernel
theorem dX12_init_105 : decode cX12_init 105 = .ok (.newarray .int, 2) := by decide +kernel
theorem dX12_init_107 : decode cX12_init 107 = .ok (.putfield 63, 3) := by decide +kernel
theorem dX12_init_110 : decode cX12_init 110 = .ok (.aload_n 0, 1) := by decide +kernel
theorem dX12_init_111 : decode cX12_init 111 = .ok (.bipush 6, 2) := by decide +kernel
theorem dX12_init_113 : decode cX12_init 113 = .ok (.anewarray 66, 3) := by decide +kernel
theorem dX12_init_116 : decode cX12_init 116 = .ok (.putfield 68, 3) := by decide +kernel
theorem dX12_init_119 : decode cX12_init 119 = .ok (.return_, 1) := by decide +kernel
theorem dX13_init_0 : decode cX13_init 0 = .ok (.aload_n 0, 1) := by decide +kernel
theorem dX13_init_1 : decode cX13_init 1 = .ok (.invokespecial 3, 3) := by decide +kernel
theorem dX13_init_4 : decode cX13_init 4 = .ok (.aload_n 0, 1) := by decide +kernel
theorem dX13_init_5 : decode cX13_init 5 = .ok (.iconst (-1), 1) := by decide +kernel
theorem dX13_init_6 : decode cX13_init 6 = .ok (.putfield 9, 3) := by decide +kernel
theorem dX13_init_9 : decode cX13_init 9 = .ok (.aload_n 0, 1) := by decide +kernel
theorem dX13_init_10 : decode cX13_init 10 = .ok (.iconst 1, 1) := by decide +kernel
theorem dX13_init_11 : decode cX13_init 11 = .ok (.putfield 15, 3) := by decide +kernel
theorem dX13_init_14 : decode cX13_init 14 = .ok (.return_, 1) := by decide +kernel
theorem dX14_init_0 : decode cX14_init 0 = .ok (.aload_n 0, 1) := by decide +kernel
theorem dX14_init_1 : decode cX14_init 1 = .ok (.invokespecial 3, 3) := by decide +kernel
theorem dX14_init_4 : decode cX14_init 4 = .ok (.aload_n 0, 1) := by decide +kernel
theorem dX14_init_5 : decode cX14_init 5 = .ok (.sipush 2048, 3) := by decide +kernel
theorem dX14_init_8 : decode cX14_init 8 = .ok (.newarray .byte, 2) := by decide +kernel
theorem dX14_init_10 : decode cX14_init 10 = .ok (.putfield 9, 3) := by decide +kernel
theorem dX14_init_13 : decode cX14_init 13 = .ok (.aload_n 0, 1) := by decide +kernel
theorem dX14_init_14 : decode cX14_init 14 = .ok (.sipush 2048, 3) := by decide +kernel
theorem dX14_init_17 : decode cX14_init 17 = .ok (.newarray .byte, 2) := by decide +kernel
theorem dX14_init_19 : decode cX14_init 19 = .ok (.putfield 15, 3) := by decide +kernel
theorem dX14_init_22 : decode cX14_init 22 = .ok (.aload_n 0, 1) := by decide +kernel
theorem dX14_init_23 : decode cX14_init 23 = .ok (.sipush 2048, 3) := by decide +kernel
theorem dX14_init_26 : decode cX14_init 26 = .ok (.newarray .boolean, 2) := by decide +kernel
theorem dX14_init_28 : decode cX14_init 28 = .ok (.putfield 18, 3) := by decide +kernel
theorem dX14_init_31 : decode cX14_init 31 = .ok (.aload_n 0, 1) := by decide +kernel
theorem dX14_init_32 : decode cX14_init 32 = .ok (.iconst (-1), 1) := by decide +kernel
theorem dX14_init_33 : decode cX14_init 33 = .ok (.putfield 22, 3) := by decide +kernel
theorem dX14_init_36 : decode cX14_init 36 = .ok (.aload_n 0, 1) := by decide +kernel
theorem dX14_init_37 : decode cX14_init 37 = .ok (.iconst (-1), 1) := by decide +kernel
theorem dX14_init_38 : decode cX14_init 38 = .ok (.putfield 26, 3) := by decide +kernel
theorem dX14_init_41 : decode cX14_init 41 = .ok (.return_, 1) := by decide +kernel
theorem dX14_begin_0 : decode cX14_begin 0 = .ok (.aload_n 0, 1) := by decide +kernel
theorem dX14_begin_1 : decode cX14_begin 1 = .ok (.iconst 0, 1) := by decide +kernel
theorem dX14_begin_2 : decode cX14_begin 2 = .ok (.putfield 29, 3) := by decide +kernel
theorem dX14_begin_5 : decode cX14_begin 5 = .ok (.aload_n 0, 1) := by decide +kernel
theorem dX14_begin_6 : decode cX14_begin 6 = .ok (.iconst 0, 1) := by decide +kernel
theorem dX14_begin_7 : decode cX14_begin 7 = .ok (.putfield 32, 3) := by decide +kernel
theorem dX14_begin_10 : decode cX14_begin 10 = .ok (.aload_n 0, 1) := by decide +kernel
theorem dX14_begin_11 : decode cX14_begin 11 = .ok (.iload_n 1, 1) := by decide +kernel
theorem dX14_begin_12 : decode cX14_begin 12 = .ok (.putfield 36, 3) := by decide +kernel
theorem dX14_begin_15 : decode cX14_begin 15 = .ok (.aload_n 0, 1) := by decide +kernel
theorem dX14_begin_16 : decode cX14_begin 16 = .ok (.iload_n 2, 1) := by decide +kernel
theorem dX14_begin_17 : decode cX14_begin 17 = .ok (.putfield 39, 3) := by decide +kernel
theorem dX14_begin_20 : decode cX14_begin 20 = .ok (.aload_n 0, 1) := by decide +kernel
theorem dX14_begin_21 : decode cX14_begin 21 = .ok (.iload_n 2, 1) := by decide +kernel
theorem dX14_begin_22 : decode cX14_begin 22 = .ok (.putfield 42, 3) := by decide +kernel
theorem dX14_begin_25 : decode cX14_begin 25 = .ok (.aload_n 0, 1) := by decide +kernel
theorem dX14_begin_26 : decode cX14_begin 26 = .ok (.iload_n 1, 1) := by decide +kernel
theorem dX14_begin_27 : decode cX14_begin 27 = .ok (.putfield 45, 3) := by decide +kernel
theorem dX14_begin_30 : decode cX14_begin 30 = .ok (.aload_n 0, 1) := by decide +kernel
theorem dX14_begin_31 : decode cX14_begin 31 = .ok (.iload_n 1, 1) := by decide +kernel
theorem dX14_begin_32 : decode cX14_begin 32 = .ok (.putfield 48, 3) := by decide +kernel
theorem dX14_begin_35 : decode cX14_begin 35 = .ok (.aload_n 0, 1) := by decide +kernel
theorem dX14_begin_36 : decode cX14_begin 36 = .ok (.iload_n 1, 1) := by decide +kernel
theorem dX14_begin_37 : decode cX14_begin 37 = .ok (.iconst 1, 1) := by decide +kernel
theorem dX14_begin_38 : decode cX14_begin 38 = .ok (.iadd, 1) := by decide +kernel
theorem dX14_begin_39 : decode cX14_begin 39 = .ok (.putfield 51, 3) := by decide +kernel
theorem dX14_begin_42 : decode cX14_begin 42 = .ok (.aload_n 0, 1) := by decide +kernel
theorem dX14_begin_43 : decode cX14_begin 43 = .ok (.iconst 0, 1) := by decide +kernel
theorem dX14_begin_44 : decode cX14_begin 44 = .ok (.putfield 54, 3) := by decide +kernel
theorem dX14_begin_47 : decode cX14_begin 47 = .ok (.aload_n 0, 1) := by decide +kernel
theorem dX14_begin_48 : decode cX14_begin 48 = .ok (.iconst 0, 1) := by decide +kernel
theorem dX14_begin_49 : decode cX14_begin 49 = .ok (.putfield 57, 3) := by decide +kernel
theorem dX14_begin_52 : decode cX14_begin 52 = .ok (.aload_n 0, 1) := by decide +kernel
theorem dX14_begin_53 : decode cX14_begin 53 = .ok (.iconst 0, 1) := by decide +kernel
theorem dX14_begin_54 : decode cX14_begin 54 = .ok (.putfield 60, 3) := by decide +kernel
theorem dX14_begin_57 : decode cX14_begin 57 = .ok (.aload_n 0, 1) := by decide +kernel
theorem dX14_begin_58 : decode cX14_begin 58 = .ok (.iconst 0, 1) := by decide +kernel
theorem dX14_begin_59 : decode cX14_begin 59 = .ok (.putfield 63, 3) := by decide +kernel
theorem dX14_begin_62 : decode cX14_begin 62 = .ok (.aload_n 0, 1) := by decide +kernel
theorem dX14_begin_63 : decode cX14_begin 63 = .ok (.iconst 0, 1) := by decide +kernel
theorem dX14_begin_64 : decode cX14_begin 64 = .ok (.putfield 66, 3) := by decide +kernel
theorem dX14_begin_67 : decode cX14_begin 67 = .ok (.aload_n 0, 1) := by decide +kernel
theorem dX14_begin_68 : decode cX14_begin 68 = .ok (.iconst 0, 1) := by decide +kernel
theorem dX14_begin_69 : decode cX14_begin 69 = .ok (.putfield 69, 3) := by decide +kernel
theorem dX14_begin_72 : decode cX14_begin 72 = .ok (.aload_n 0, 1) := by decide +kernel
theorem dX14_begin_73 : decode cX14_begin 73 = .ok (.iconst 0, 1) := by decide +kernel
theorem dX14_begin_74 : decode cX14_begin 74 = .ok (.putfield 72, 3) := by decide +kernel
theorem dX14_begin_77 : decode cX14_begin 77 = .ok (.iconst 0, 1) := by decide +kernel
theorem dX14_begin_78 : decode cX14_begin 78 = .ok (.istore_n 3, 1) := by decide +kernel
theorem dX14_begin_79 : decode cX14_begin 79 = .ok (.iload_n 3, 1) := by decide +kernel
theorem dX14_begin_80 : decode cX14_begin 80 = .ok (.sipush 2048, 3) := by decide +kernel
theorem dX14_begin_83 : decode cX14_begin 83 = .ok (.if_icmp .ge 16, 3) := by decide +kernel
theorem dX14_begin_86 : decode cX14_begin 86 = .ok (.aload_n 0, 1) := by decide +kernel
theorem dX14_begin_87 : decode cX14_begin 87 = .ok (.getfield 18, 3) := by decide +kernel
theorem dX14_begin_90 : decode cX14_begin 90 = .ok (.iload_n 3, 1) := by decide +kernel
theorem dX14_begin_91 : decode cX14_begin 91 = .ok (.iconst 0, 1) := by decide +kernel
theorem dX14_begin_92 : decode cX14_begin 92 = .ok (.bastore, 1) := by decide +kernel
theorem dX14_begin_93 : decode cX14_begin 93 = .ok (.iinc 3 1, 3) := by decide +kernel
theorem dX14_begin_96 : decode cX14_begin 96 = .ok (.goto (-17), 3) := by decide +kernel
theorem dX14_begin_99 : decode cX14_begin 99 = .ok (.aload_n 0, 1) := by decide +kernel
theorem dX14_begin_100 : decode cX14_begin 100 = .ok (.iconst 0, 1) := by decide +kernel
theorem dX14_begin_101 : decode cX14_begin 101 = .ok (.putfield 75, 3) := by decide +kernel
theorem dX14_begin_104 : decode cX14_begin 104 = .ok (.aload_n 0, 1) := by decide +kernel
theorem dX14_begin_105 : decode cX14_begin 105 = .ok (.iconst 0, 1) := by decide +kernel
theorem dX14_begin_106 : decode cX14_begin 106 = .ok (.putfield 78, 3) := by decide +kernel
theorem dX14_begin_109 : decode cX14_begin 109 = .ok (.aload_n 0, 1) := by decide +kernel
theorem dX14_begin_110 : decode cX14_begin 110 = .ok (.iconst 0, 1) := by decide +kernel
theorem dX14_begin_111 : decode cX14_begin 111 = .ok (.putfield 81, 3) := by decide +kernel
theorem dX14_begin_114 : decode cX14_begin 114 = .ok (.aload_n 0, 1) := by decide +kernel
theorem dX14_begin_115 : decode cX14_begin 115 = .ok (.iconst 0, 1) := by decide +kernel
theorem dX14_begin_116 : decode cX14_begin 116 = .ok (.putfield 84, 3) := by decide +kernel
theorem dX14_begin_119 : decode cX14_begin 119 = .ok (.aload_n 0, 1) := by decide +kernel
theorem dX14_begin_120 : decode cX14_begin 120 = .ok (.iconst 0, 1) := by decide +kernel
theorem dX14_begin_121 : decode cX14_begin 121 = .ok (.putfield 87, 3) := by decide +kernel
theorem dX14_begin_124 : decode cX14_begin 124 = .ok (.aload_n 0, 1) := by decide +kernel
theorem dX14_begin_125 : decode cX14_begin 125 = .ok (.iconst 0, 1) := by decide +kernel
theorem dX14_begin_126 : decode cX14_begin 126 = .ok (.putfield 90, 3) := by decide +kernel
theorem dX14_begin_129 : decode cX14_begin 129 = .ok (.aload_n 0, 1) := by decide +kernel
theorem dX14_begin_130 : decode cX14_begin 130 = .ok (.iconst 0, 1) := by decide +kernel
theorem dX14_begin_131 : decode cX14_begin 131 = .ok (.putfield 93, 3) := by decide +kernel
theorem dX14_begin_134 : decode cX14_begin 134 = .ok (.aload_n 0, 1) := by decide +kernel
theorem dX14_begin_135 : decode cX14_begin 135 = .ok (.iconst 0, 1) := by decide +kernel
theorem dX14_begin_136 : decode cX14_begin 136 = .ok (.putfield 96, 3) := by decide +kernel
theorem dX14_begin_139 : decode cX14_begin 139 = .ok (.aload_n 0, 1) := by decide +kernel
theorem dX14_begin_140 : decode cX14_begin 140 = .ok (.iconst 0, 1) := by decide +kernel
theorem dX14_begin_141 : decode cX14_begin 141 = .ok (.putfield 99, 3) := by decide +kernel
theorem dX14_begin_144 : decode cX14_begin 144 = .ok (.aload_n 0, 1) := by decide +kernel
theorem dX14_begin_145 : decode cX14_begin 145 = .ok (.bipush 60, 2) := by decide +kernel
theorem dX14_begin_147 : decode cX14_begin 147 = .ok (.putfield 102, 3) := by decide +kernel
theorem dX14_begin_150 : decode cX14_begin 150 = .ok (.aload_n 0, 1) := by decide +kernel
theorem dX14_begin_151 : decode cX14_begin 151 = .ok (.iconst 0, 1) := by decide +kernel
theorem dX14_begin_152 : decode cX14_begin 152 = .ok (.putfield 105, 3) := by decide +kernel
theorem dX14_begin_155 : decode cX14_begin 155 = .ok (.aload_n 0, 1) := by decide +kernel
theorem dX14_begin_156 : decode cX14_begin 156 = .ok (.iconst 0, 1) := by decide +kernel
theorem dX14_begin_157 : decode cX14_begin 157 = .ok (.putfield 108, 3) := by decide +kernel
theorem dX14_begin_160 : decode cX14_begin 160 = .ok (.aload_n 0, 1) := by decide +kernel
theorem dX14_begin_161 : decode cX14_begin 161 = .ok (.iconst 0, 1) := by decide +kernel
theorem dX14_begin_162 : decode cX14_begin 162 = .ok (.putfield 111, 3) := by decide +kernel
theorem dX14_begin_165 : decode cX14_begin 165 = .ok (.aload_n 0, 1) := by decide +kernel
theorem dX14_begin_166 : decode cX14_begin 166 = .ok (.iconst 0, 1) := by decide +kernel
theorem dX14_begin_167 : decode cX14_begin 167 = .ok (.putfield 114, 3) := by decide +kernel
theorem dX14_begin_170 : decode cX14_begin 170 = .ok (.aload_n 0, 1) := by decide +kernel
theorem dX14_begin_171 : decode cX14_begin 171 = .ok (.iconst 0, 1) := by decide +kernel
theorem dX14_begin_172 : decode cX14_begin 172 = .ok (.putfield 117, 3) := by decide +kernel
theorem dX14_begin_175 : decode cX14_begin 175 = .ok (.aload_n 0, 1) := by decide +kernel
theorem dX14_begin_176 : decode cX14_begin 176 = .ok (.iconst 0, 1) := by decide +kernel
theorem dX14_begin_177 : decode cX14_begin 177 = .ok (.putfield 120, 3) := by decide +kernel
theorem dX14_begin_180 : decode cX14_begin 180 = .ok (.return_, 1) := by decide +kernel
theorem dX14_readable_0 : decode cX14_readable 0 = .ok (.aload_n 0, 1) := by decide +kernel
theorem dX14_readable_1 : decode cX14_readable 1 = .ok (.getfield 69, 3) := by decide +kernel
theorem dX14_readable_4 : decode cX14_readable 4 = .ok (.ifCond .eq 31, 3) := by decide +kernel
theorem dX14_readable_7 : decode cX14_readable 7 = .ok (.aload_n 0, 1) := by decide +kernel
theorem dX14_readable_8 : decode cX14_readable 8 = .ok (.getfield 81, 3) := by decide +kernel
theorem dX14_readable_11 : decode cX14_readable 11 = .ok (.ifCond .eq 12, 3) := by decide +kernel
theorem dX14_readable_14 : decode cX14_readable 14 = .ok (.aload_n 0, 1) := by decide +kernel
theorem dX14_readable_15 : decode cX14_readable 15 = .ok (.getfield 66, 3) := by decide +kernel
theorem dX14_readable_18 : decode cX14_readable 18 = .ok (.iconst 1, 1) := by decide +kernel
theorem dX14_readable_19 : decode cX14_readable 19 = .ok (.isub, 1) := by decide +kernel
theorem dX14_readable_20 : decode cX14_readable 20 = .ok (.goto 7, 3) := by decide +kernel
theorem dX14_readable_23 : decode cX14_readable 23 = .ok (.aload_n 0, 1) := by decide +kernel
theorem dX14_readable_24 : decode cX14_readable 24 = .ok (.getfield 66, 3) := by decide +kernel
theorem dX14_readable_27 : decode cX14_readable 27 = .ok (.aload_n 0, 1) := by decide +kernel
theorem dX14_readable_28 : decode cX14_readable 28 = .ok (.getfield 72, 3) := by decide +kernel
theorem dX14_readable_31 : decode cX14_readable 31 = .ok (.isub, 1) := by decide +kernel
theorem dX14_readable_32 : decode cX14_readable 32 = .ok (.goto 4, 3) := by decide +kernel
theorem dX14_readable_35 : decode cX14_readable 35 = .ok (.iconst 0, 1) := by decide +kernel
theorem dX14_readable_36 : decode cX14_readable 36 = .ok (.ireturn, 1) := by decide +kernel
theorem dX14_room_0 : decode cX14_room 0 = .ok (.sipush 2048, 3) := by decide +kernel
theorem dX14_room_3 : decode cX14_room 3 = .ok (.aload_n 0, 1) := by decide +kernel
theorem dX14_room_4 : decode cX14_room 4 = .ok (.invokevirtual 123, 3) := by decide +kernel
theorem dX14_room_7 : decode cX14_room 7 = .ok (.isub, 1) := by decide +kernel
theorem dX14_room_8 : decode cX14_room 8 = .ok (.ireturn, 1) := by decide +kernel
theorem dX14_unthanked_0 : decode cX14_unthanked 0 = .ok (.aload_n 0, 1) := by decide +kernel
theorem dX14_unthanked_1 : decode cX14_unthanked 1 = .ok (.getfield 45, 3) := by decide +kernel
theorem dX14_unthanked_4 : decode cX14_unthanked 4 = .ok (.aload_n 0, 1) := by decide +kernel
theorem dX14_unthanked_5 : decode cX14_unthanked 5 = .ok (.getfield 36, 3) := by decide +kernel
theorem dX14_unthanked_8 : decode cX14_unthanked 8 = .ok (.iconst 1, 1) := by decide +kernel
theorem dX14_unthanked_9 : decode cX14_unthanked 9 = .ok (.iadd, 1) := by decide +kernel
theorem dX14_unthanked_10 : decode cX14_unthanked 10 = .ok (.invokestatic 127, 3) := by decide +kernel
theorem dX14_unthanked_13 : decode cX14_unthanked 13 = .ok (.ifCond .eq 12, 3) := by decide +kernel
theorem dX14_unthanked_16 : decode cX14_unthanked 16 = .ok (.aload_n 0, 1) := by decide +kernel
theorem dX14_unthanked_17 : decode cX14_unthanked 17 = .ok (.getfield 36, 3) := by decide +kernel
theorem dX14_unthanked_20 : decode cX14_unthanked 20 = .ok (.iconst 1, 1) := by decide +kernel
theorem dX14_unthanked_21 : decode cX14_unthanked 21 = .ok (.iadd, 1) := by decide +kernel
theorem dX14_unthanked_22 : decode cX14_unthanked 22 = .ok (.goto 7, 3) := by decide +kernel
theorem dX14_unthanked_25 : decode cX14_unthanked 25 = .ok (.aload_n 0, 1) := by decide +kernel
theorem dX14_unthanked_26 : decode cX14_unthanked 26 = .ok (.getfield 45, 3) := by decide +kernel
theorem dX14_unthanked_29 : decode cX14_unthanked 29 = .ok (.istore_n 1, 1) := by decide +kernel
theorem dX14_unthanked_30 : decode cX14_unthanked 30 = .ok (.aload_n 0, 1) := by decide +kernel
theorem dX14_unthanked_31 : decode cX14_unthanked 31 = .ok (.getfield 51, 3) := by decide +kernel
theorem dX14_unthanked_34 : decode cX14_unthanked 34 = .ok (.iload_n 1, 1) := by decide +kernel
theorem dX14_unthanked_35 : decode cX14_unthanked 35 = .ok (.invokestatic 127, 3) := by decide +kernel
theorem dX14_unthanked_38 : decode cX14_unthanked 38 = .ok (.ifCond .eq 7, 3) := by decide +kernel
theorem dX14_unthanked_41 : decode cX14_unthanked 41 = .ok (.iconst 0, 1) := by decide +kernel
theorem dX14_unthanked_42 : decode cX14_unthanked 42 = .ok (.goto 9, 3) := by decide +kernel
theorem dX14_unthanked_45 : decode cX14_unthanked 45 = .ok (.aload_n 0, 1) := by decide +kernel
theorem dX14_unthanked_46 : decode cX14_unthanked 46 = .ok (.getfield 51, 3) := by decide +kernel
theorem dX14_unthanked_49 : decode cX14_unthanked 49 = .ok (.iload_n 1, 1) := by decide +kernel
theorem dX14_unthanked_50 : decode cX14_unthanked 50 = .ok (.isub, 1) := by decide +kernel
theorem dX14_unthanked_51 : decode cX14_unthanked 51 = .ok (.ireturn, 1) := by decide +kernel
theorem dX14_isDead_0 : decode cX14_isDead 0 = .ok (.aload_n 0, 1) := by decide +kernel
theorem dX14_isDead_1 : decode cX14_isDead 1 = .ok (.getfield 29, 3) := by decide +kernel
theorem dX14_isDead_4 : decode cX14_isDead 4 = .ok (.ifCond .eq 12, 3) := by decide +kernel
theorem dX14_isDead_7 : decode cX14_isDead 7 = .ok (.aload_n 0, 1) := by decide +kernel
theorem dX14_isDead_8 : decode cX14_isDead 8 = .ok (.getfield 29, 3) := by decide +kernel
theorem dX14_isDead_11 : decode cX14_isDead 11 = .ok (.bipush 11, 2) := by decide +kernel
theorem dX14_isDead_13 : decode cX14_isDead 13 = .ok (.if_icmp .ne 7, 3) := by decide +kernel
theorem dX14_isDead_16 : decode cX14_isDead 16 = .ok (.iconst 1, 1) := by decide +kernel
theorem dX14_isDead_17 : decode cX14_isDead 17 = .ok (.goto 4, 3) := by decide +kernel
theorem dX14_isDead_20 : decode cX14_isDead 20 = .ok (.iconst 0, 1) := by decide +kernel
theorem dX14_isDead_21 : decode cX14_isDead 21 = .ok (.ireturn, 1) := by decide +kernel
theorem dX14_sendsNew_0 : decode cX14_sendsNew 0 = .ok (.aload_n 0, 1) := by decide +kernel
theorem dX14_sendsNew_1 : decode cX14_sendsNew 1 = .ok (.getfield 29, 3) := by decide +kernel
theorem dX14_sendsNew_4 : decode cX14_sendsNew 4 = .ok (.iconst 4, 1) := by decide +kernel
theorem dX14_sendsNew_5 : decode cX14_sendsNew 5 = .ok (.if_icmp .eq 38, 3) := by decide +kernel
theorem dX14_sendsNew_8 : decode cX14_sendsNew 8 = .ok (.aload_n 0, 1) := by decide +kernel
theorem dX14_sendsNew_9 : decode cX14_sendsNew 9 = .ok (.getfield 29, 3) := by decide +kernel
theorem dX14_sendsNew_12 : decode cX14_sendsNew 12 = .ok (.iconst 5, 1) := by decide +kernel
theorem dX14_sendsNew_13 : decode cX14_sendsNew 13 = .ok (.if_icmp .eq 30, 3) := by decide +kernel
theorem dX14_sendsNew_16 : decode cX14_sendsNew 16 = .ok (.aload_n 0, 1) := by decide +kernel
theorem dX14_sendsNew_17 : decode cX14_sendsNew 17 = .ok (.getfield 29, 3) := by decide +kernel
theorem dX14_sendsNew_20 : decode cX14_sendsNew 20 = .ok (.bipush 7, 2) := by decide +kernel
theorem dX14_sendsNew_22 : decode cX14_sendsNew 22 = .ok (.if_icmp .eq 21, 3) := by decide +kernel
theorem dX14_sendsNew_25 : decode cX14_sendsNew 25 = .ok (.aload_n 0, 1) := by decide +kernel
theorem dX14_sendsNew_26 : decode cX14_sendsNew 26 = .ok (.getfield 29, 3) := by decide +kernel
theorem dX14_sendsNew_29 : decode cX14_sendsNew 29 = .ok (.bipush 8, 2) := by decide +kernel
theorem dX14_sendsNew_31 : decode cX14_sendsNew 31 = .ok (.if_icmp .eq 12, 3) := by decide +kernel
theorem dX14_sendsNew_34 : decode cX14_sendsNew 34 = .ok (.aload_n 0, 1) := by decide +kernel
theorem dX14_sendsNew_35 : decode cX14_sendsNew 35 = .ok (.getfield 29, 3) := by decide +kernel
theorem dX14_sendsNew_38 : decode cX14_sendsNew 38 = .ok (.bipush 9, 2) := by decide +kernel
theorem dX14_sendsNew_40 : decode cX14_sendsNew 40 = .ok (.if_icmp .ne 7, 3) := by decide +kernel
theorem dX14_sendsNew_43 : decode cX14_sendsNew 43 = .ok (.iconst 1, 1) := by decide +kernel
theorem dX14_sendsNew_44 : decode cX14_sendsNew 44 = .ok (.goto 4, 3) := by decide +kernel
theorem dX14_sendsNew_47 : decode cX14_sendsNew 47 = .ok (.iconst 0, 1) := by decide +kernel
theorem dX14_sendsNew_48 : decode cX14_sendsNew 48 = .ok (.ireturn, 1) := by decide +kernel
theorem dX14_lastSent_0 : decode cX14_lastSent 0 = .ok (.aload_n 0, 1) := by decide +kernel
theorem dX14_lastSent_1 : decode cX14_lastSent 1 = .ok (.getfield 54, 3) := by decide +kernel
theorem dX14_lastSent_4 : decode cX14_lastSent 4 = .ok (.ifCond .eq 21, 3) := by decide +kernel
theorem dX14_lastSent_7 : decode cX14_lastSent 7 = .ok (.aload_n 0, 1) := by decide +kernel
theorem dX14_lastSent_8 : decode cX14_lastSent 8 = .ok (.getfield 51, 3) := by decide +kernel
theorem dX14_lastSent_11 : decode cX14_lastSent 11 = .ok (.aload_n 0, 1) := by decide +kernel
theorem dX14_lastSent_12 : decode cX14_lastSent 12 = .ok (.getfield 48, 3) := by decide +kernel
theorem dX14_lastSent_15 : decode cX14_lastSent 15 = .ok (.invokestatic 127, 3) := by decide +kernel
theorem dX14_lastSent_18 : decode cX14_lastSent 18 = .ok (.ifCond .eq 7, 3) := by decide +kernel
theorem dX14_lastSent_21 : decode cX14_lastSent 21 = .ok (.iconst 1, 1) := by decide +kernel
theorem dX14_lastSent_22 : decode cX14_lastSent 22 = .ok (.goto 4, 3) := by decide +kernel
theorem dX14_lastSent_25 : decode cX14_lastSent 25 = .ok (.iconst 0, 1) := by decide +kernel
theorem dX14_lastSent_26 : decode cX14_lastSent 26 = .ok (.ireturn, 1) := by decide +kernel
theorem dX14_hasNew_0 : decode cX14_hasNew 0 = .ok (.aload_n 0, 1) := by decide +kernel
theorem dX14_hasNew_1 : decode cX14_hasNew 1 = .ok (.invokevirtual 131, 3) := by decide +kernel
theorem dX14_hasNew_4 : decode cX14_hasNew 4 = .ok (.ifCond .eq 35, 3) := by decide +kernel
theorem dX14_hasNew_7 : decode cX14_hasNew 7 = .ok (.aload_n 0, 1) := by decide +kernel
theorem dX14_hasNew_8 : decode cX14_hasNew 8 = .ok (.getfield 48, 3) := by decide +kernel
theorem dX14_hasNew_11 : decode cX14_hasNew 11 = .ok (.aload_n 0, 1) := by decide +kernel
theorem dX14_hasNew_12 : decode cX14_hasNew 12 = .ok (.getfield 51, 3) := by decide +kernel
theorem dX14_hasNew_15 : decode cX14_hasNew 15 = .ok (.invokestatic 127, 3) := by decide +kernel
theorem dX14_hasNew_18 : decode cX14_hasNew 18 = .ok (.ifCond .ne 17, 3) := by decide +kernel
theorem dX14_hasNew_21 : decode cX14_hasNew 21 = .ok (.aload_n 0, 1) := by decide +kernel
theorem dX14_hasNew_22 : decode cX14_hasNew 22 = .ok (.getfield 54, 3) := by decide +kernel
theorem dX14_hasNew_25 : decode cX14_hasNew 25 = .ok (.ifCond .eq 14, 3) := by decide +kernel
theorem dX14_hasNew_28 : decode cX14_hasNew 28 = .ok (.aload_n 0, 1) := by decide +kernel
theorem dX14_hasNew_29 : decode cX14_hasNew 29 = .ok (.invokevirtual 135, 3) := by decide +kernel
theorem dX14_hasNew_32 : decode cX14_hasNew 32 = .ok (.ifCond .ne 7, 3) := by decide +kernel
theorem dX14_hasNew_35 : decode cX14_hasNew 35 = .ok (.iconst 1, 1) := by decide +kernel
theorem dX14_hasNew_36 : decode cX14_hasNew 36 = .ok (.goto 4, 3) := by decide +kernel
theorem dX14_hasNew_39 : decode cX14_hasNew 39 = .ok (.iconst 0, 1) := by decide +kernel
theorem dX14_hasNew_40 : decode cX14_hasNew 40 = .ok (.ireturn, 1) := by decide +kernel
theorem dX14_become_0 : decode cX14_become 0 = .ok (.aload_n 0, 1) := by decide +kernel
theorem dX14_become_1 : decode cX14_become 1 = .ok (.iload_n 1, 1) := by decide +kernel
theorem dX14_become_2 : decode cX14_become 2 = .ok (.putfield 29, 3) := by decide +kernel
theorem dX14_become_5 : decode cX14_become 5 = .ok (.iload_n 1, 1) := by decide +kernel
theorem dX14_become_6 : decode cX14_become 6 = .ok (.ifCond .eq 15, 3) := by decide +kernel
theorem dX14_become_9 : decode cX14_become 9 = .ok (.iload_n 1, 1) := by decide +kernel
theorem dX14_become_10 : decode cX14_become 10 = .ok (.bipush 11, 2) := by decide +kernel
theorem dX14_become_12 : decode cX14_become 12 = .ok (.if_icmp .eq 9, 3) := by decide +kernel
theorem dX14_become_15 : decode cX14_become 15 = .ok (.iload_n 1, 1) := by decide +kernel
theorem dX14_become_16 : decode cX14_become 16 = .ok (.bipush 10, 2) := by decide +kernel
theorem dX14_become_18 : decode cX14_become 18 = .ok (.if_icmp .ne 45, 3) := by decide +kernel
theorem dX14_become_21 : decode cX14_become 21 = .ok (.aload_n 0, 1) := by decide +kernel
theorem dX14_become_22 : decode cX14_become 22 = .ok (.iconst 0, 1) := by decide +kernel
theorem dX14_become_23 : decode cX14_become 23 = .ok (.putfield 84, 3) := by decide +kernel
theorem dX14_become_26 : decode cX14_become 26 = .ok (.aload_n 0, 1) := by decide +kernel
theorem dX14_become_27 : decode cX14_become 27 = .ok (.iconst 0, 1) := by decide +kernel
theorem dX14_become_28 : decode cX14_become 28 = .ok (.putfield 90, 3) := by decide +kernel
theorem dX14_become_31 : decode cX14_become 31 = .ok (.aload_n 0, 1) := by decide +kernel
theorem dX14_become_32 : decode cX14_become 32 = .ok (.iconst 0, 1) := by decide +kernel
theorem dX14_become_33 : decode cX14_become 33 = .ok (.putfield 93, 3) := by decide +kernel
theorem dX14_become_36 : decode cX14_become 36 = .ok (.aload_n 0, 1) := by decide +kernel
theorem dX14_become_37 : decode cX14_become 37 = .ok (.aload_n 0, 1) := by decide +kernel
theorem dX14_become_38 : decode cX14_become 38 = .ok (.getfield 96, 3) := by decide +kernel
theorem dX14_become_41 : decode cX14_become 41 = .ok (.ifCond .eq 13, 3) := by decide +kernel
theorem dX14_become_44 : decode cX14_become 44 = .ok (.iload_n 1, 1) := by decide +kernel
theorem dX14_become_45 : decode cX14_become 45 = .ok (.bipush 10, 2) := by decide +kernel
theorem dX14_become_47 : decode cX14_become 47 = .ok (.if_icmp .ne 7, 3) := by decide +kernel
theorem dX14_become_50 : decode cX14_become 50 = .ok (.iconst 1, 1) := by decide +kernel
theorem dX14_become_51 : decode cX14_become 51 = .ok (.goto 4, 3) := by decide +kernel
theorem dX14_become_54 : decode cX14_become 54 = .ok (.iconst 0, 1) := by decide +kernel
theorem dX14_become_55 : decode cX14_become 55 = .ok (.putfield 96, 3) := by decide +kernel
theorem dX14_become_58 : decode cX14_become 58 = .ok (.aload_n 0, 1) := by decide +kernel
theorem dX14_become_59 : decode cX14_become 59 = .ok (.iconst 0, 1) := by decide +kernel
theorem dX14_become_60 : decode cX14_become 60 = .ok (.putfield 99, 3) := by decide +kernel
theorem dX14_become_63 : decode cX14_become 63 = .ok (.iload_n 1, 1) := by decide +kernel
theorem dX14_become_64 : decode cX14_become 64 = .ok (.bipush 10, 2) := by decide +kernel
theorem dX14_become_66 : decode cX14_become 66 = .ok (.if_icmp .ne 12, 3) := by decide +kernel
theorem dX14_become_69 : decode cX14_become 69 = .ok (.aload_n 0, 1) := by decide +kernel
theorem dX14_become_70 : decode cX14_become 70 = .ok (.iload_n 2, 1) := by decide +kernel
theorem dX14_become_71 : decode cX14_become 71 = .ok (.sipush 2000, 3) := by decide +kernel
theorem dX14_become_74 : decode cX14_become 74 = .ok (.iadd, 1) := by decide +kernel
theorem dX14_become_75 : decode cX14_become 75 = .ok (.putfield 138, 3) := by decide +kernel
theorem dX14_become_78 : decode cX14_become 78 = .ok (.return_, 1) := by decide +kernel
theorem dX14_setAlarm_0 : decode cX14_setAlarm 0 = .ok (.aload_n 0, 1) := by decide +kernel
theorem dX14_setAlarm_1 : decode cX14_setAlarm 1 = .ok (.iconst 1, 1) := by decide +kernel
theorem dX14_setAlarm_2 : decode cX14_setAlarm 2 = .ok (.putfield 99, 3) := by decide +kernel
theorem dX14_setAlarm_5 : decode cX14_setAlarm 5 = .ok (.aload_n 0, 1) := by decide +kernel
theorem dX14_setAlarm_6 : decode cX14_setAlarm 6 = .ok (.iload_n 1, 1) := by decide +kernel
theorem dX14_setAlarm_7 : decode cX14_setAlarm 7 = .ok (.aload_n 0, 1) := by decide +kernel
theorem dX14_setAlarm_8 : decode cX14_setAlarm 8 = .ok (.getfield 102, 3) := by decide +kernel
theorem dX14_setAlarm_11 : decode cX14_setAlarm 11 = .ok (.iadd, 1) := by decide +kernel
theorem dX14_setAlarm_12 : decode cX14_setAlarm 12 = .ok (.putfield 141, 3) := by decide +kernel
theorem dX14_setAlarm_15 : decode cX14_setAlarm 15 = .ok (.return_, 1) := by decide +kernel
theorem dX14_resetWith_0 : decode cX14_resetWith 0 = .ok (.aload_n 0, 1) := by decide +kernel
theorem dX14_resetWith_1 : decode cX14_resetWith 1 = .ok (.iconst 1, 1) := by decide +kernel
theorem dX14_resetWith_2 : decode cX14_resetWith 2 = .ok (.putfield 144, 3) := by decide +kernel
theorem dX14_resetWith_5 : decode cX14_resetWith 5 = .ok (.aload_n 0, 1) := by decide +kernel
theorem dX14_resetWith_6 : decode cX14_resetWith 6 = .ok (.iload_n 1, 1) := by decide +kernel
theorem dX14_resetWith_7 : decode cX14_resetWith 7 = .ok (.putfield 147, 3) := by decide +kernel
theorem dX14_resetWith_10 : decode cX14_resetWith 10 = .ok (.aload_n 0, 1) := by decide +kernel
theorem dX14_resetWith_11 : decode cX14_resetWith 11 = .ok (.iload_n 2, 1) := by decide +kernel
theorem dX14_resetWith_12 : decode cX14_resetWith 12 = .ok (.putfield 150, 3) := by decide +kernel
theorem dX14_resetWith_15 : decode cX14_resetWith 15 = .ok (.aload_n 0, 1) := by decide +kernel
theorem dX14_resetWith_16 : decode cX14_resetWith 16 = .ok (.iload_n 3, 1) := by decide +kernel
theorem dX14_resetWith_17 : decode cX14_resetWith 17 = .ok (.putfield 153, 3) := by decide +kernel
theorem dX14_resetWith_20 : decode cX14_resetWith 20 = .ok (.return_, 1) := by decide +kernel
theorem dX14_thankedFor_0 : decode cX14_thankedFor 0 = .ok (.aload_n 0, 1) := by decide +kernel
theorem dX14_thankedFor_1 : decode cX14_thankedFor 1 = .ok (.iload_n 1, 1) := by decide +kernel
theorem dX14_thankedFor_2 : decode cX14_thankedFor 2 = .ok (.putfield 45, 3) := by decide +kernel
theorem dX14_thankedFor_5 : decode cX14_thankedFor 5 = .ok (.aload_n 0, 1) := by decide +kernel
theorem dX14_thankedFor_6 : decode cX14_thankedFor 6 = .ok (.getfield 108, 3) := by decide +kernel
theorem dX14_thankedFor_9 : decode cX14_thankedFor 9 = .ok (.ifCond .eq 29, 3) := by decide +kernel
theorem dX14_thankedFor_12 : decode cX14_thankedFor 12 = .ok (.iload_n 1, 1) := by decide +kernel
theorem dX14_thankedFor_13 : decode cX14_thankedFor 13 = .ok (.aload_n 0, 1) := by decide +kernel
theorem dX14_thankedFor_14 : decode cX14_thankedFor 14 = .ok (.getfield 156, 3) := by decide +kernel
theorem dX14_thankedFor_17 : decode cX14_thankedFor 17 = .ok (.invokestatic 127, 3) := by decide +kernel
theorem dX14_thankedFor_20 : decode cX14_thankedFor 20 = .ok (.ifCond .ne 18, 3) := by decide +kernel
theorem dX14_thankedFor_23 : decode cX14_thankedFor 23 = .ok (.aload_n 0, 1) := by decide +kernel
theorem dX14_thankedFor_24 : decode cX14_thankedFor 24 = .ok (.iconst 0, 1) := by decide +kernel
theorem dX14_thankedFor_25 : decode cX14_thankedFor 25 = .ok (.putfield 108, 3) := by decide +kernel
theorem dX14_thankedFor_28 : decode cX14_thankedFor 28 = .ok (.aload_n 0, 1) := by decide +kernel
theorem dX14_thankedFor_29 : decode cX14_thankedFor 29 = .ok (.iload_n 2, 1) := by decide +kernel
theorem dX14_thankedFor_30 : decode cX14_thankedFor 30 = .ok (.aload_n 0, 1) := by decide +kernel
theorem dX14_thankedFor_31 : decode cX14_thankedFor 31 = .ok (.getfield 159, 3) := by decide +kernel
theorem dX14_thankedFor_34 : decode cX14_thankedFor 34 = .ok (.isub, 1) := by decide +kernel
theorem dX14_thankedFor_35 : decode cX14_thankedFor 35 = .ok (.invokevirtual 162, 3) := by decide +kernel
theorem dX14_thankedFor_38 : decode cX14_thankedFor 38 = .ok (.aload_n 0, 1) := by decide +kernel
theorem dX14_thankedFor_39 : decode cX14_thankedFor 39 = .ok (.iconst 0, 1) := by decide +kernel
theorem dX14_thankedFor_40 : decode cX14_thankedFor 40 = .ok (.putfield 105, 3) := by decide +kernel
theorem dX14_thankedFor_43 : decode cX14_thankedFor 43 = .ok (.aload_n 0, 1) := by decide +kernel
theorem dX14_thankedFor_44 : decode cX14_thankedFor 44 = .ok (.iconst 0, 1) := by decide +kernel
theorem dX14_thankedFor_45 : decode cX14_thankedFor 45 = .ok (.putfield 90, 3) := by decide +kernel
theorem dX14_thankedFor_48 : decode cX14_thankedFor 48 = .ok (.aload_n 0, 1) := by decide +kernel
theorem dX14_thankedFor_49 : decode cX14_thankedFor 49 = .ok (.getfield 45, 3) := by decide +kernel
theorem dX14_thankedFor_52 : decode cX14_thankedFor 52 = .ok (.aload_n 0, 1) := by decide +kernel
theorem dX14_thankedFor_53 : decode cX14_thankedFor 53 = .ok (.getfield 48, 3) := by decide +kernel
theorem dX14_thankedFor_56 : decode cX14_thankedFor 56 = .ok (.if_icmp .eq 11, 3) := by decide +kernel
theorem dX14_thankedFor_59 : decode cX14_thankedFor 59 = .ok (.aload_n 0, 1) := by decide +kernel
theorem dX14_thankedFor_60 : decode cX14_thankedFor 60 = .ok (.iload_n 2, 1) := by decide +kernel
theorem dX14_thankedFor_61 : decode cX14_thankedFor 61 = .ok (.invokevirtual 166, 3) := by decide +kernel
theorem dX14_thankedFor_64 : decode cX14_thankedFor 64 = .ok (.goto 8, 3) := by decide +kernel
theorem dX14_thankedFor_67 : decode cX14_thankedFor 67 = .ok (.aload_n 0, 1) := by decide +kernel
theorem dX14_thankedFor_68 : decode cX14_thankedFor 68 = .ok (.iconst 0, 1) := by decide +kernel
theorem dX14_thankedFor_69 : decode cX14_thankedFor 69 = .ok (.putfield 99, 3) := by decide +kernel
theorem dX14_thankedFor_72 : decode cX14_thankedFor 72 = .ok (.return_, 1) := by decide +kernel
theorem dX14_time_0 : decode cX14_time 0 = .ok (.aload_n 0, 1) := by decide +kernel
theorem dX14_time_1 : decode cX14_time 1 = .ok (.getfield 111, 3) := by decide +kernel
theorem dX14_time_4 : decode cX14_time 4 = .ok (.ifCond .eq 52, 3) := by decide +kernel
theorem dX14_time_7 : decode cX14_time 7 = .ok (.iload_n 1, 1) := by decide +kernel
theorem dX14_time_8 : decode cX14_time 8 = .ok (.aload_n 0, 1) := by decide +kernel
theorem dX14_time_9 : decode cX14_time 9 = .ok (.getfield 114, 3) := by decide +kernel
theorem dX14_time_12 : decode cX14_time 12 = .ok (.bipush 8, 2) := by decide +kernel
theorem dX14_time_14 : decode cX14_time 14 = .ok (.idiv, 1) := by decide +kernel
theorem dX14_time_15 : decode cX14_time 15 = .ok (.isub, 1) := by decide +kernel
theorem dX14_time_16 : decode cX14_time 16 = .ok (.istore_n 2, 1) := by decide +kernel
theorem dX14_time_17 : decode cX14_time 17 = .ok (.aload_n 0, 1) := by decide +kernel
theorem dX14_time_18 : decode cX14_time 18 = .ok (.dup, 1) := by decide +kernel
theorem dX14_time_19 : decode cX14_time 19 = .ok (.getfield 114, 3) := by decide +kernel
theorem dX14_time_22 : decode cX14_time 22 = .ok (.iload_n 2, 1) := by decide +kernel
theorem dX14_time_23 : decode cX14_time 23 = .ok (.iadd, 1) := by decide +kernel
theorem dX14_time_24 : decode cX14_time 24 = .ok (.putfield 114, 3) := by decide +kernel
theorem dX14_time_27 : decode cX14_time 27 = .ok (.aload_n 0, 1) := by decide +kernel
theorem dX14_time_28 : decode cX14_time 28 = .ok (.dup, 1) := by decide +kernel
theorem dX14_time_29 : decode cX14_time 29 = .ok (.getfield 117, 3) := by decide +kernel
theorem dX14_time_32 : decode cX14_time 32 = .ok (.iload_n 2, 1) := by decide +kernel
theorem dX14_time_33 : decode cX14_time 33 = .ok (.ifCond .ge 8, 3) := by decide +kernel
theorem dX14_time_36 : decode cX14_time 36 = .ok (.iload_n 2, 1) := by decide +kernel
theorem dX14_time_37 : decode cX14_time 37 = .ok (.ineg, 1) := by decide +kernel
theorem dX14_time_38 : decode cX14_time 38 = .ok (.goto 4, 3) := by decide +kernel
theorem dX14_time_41 : decode cX14_time 41 = .ok (.iload_n 2, 1) := by decide +kernel
theorem dX14_time_42 : decode cX14_time 42 = .ok (.aload_n 0, 1) := by decide +kernel
theorem dX14_time_43 : decode cX14_time 43 = .ok (.getfield 117, 3) := by decide +kernel
theorem dX14_time_46 : decode cX14_time 46 = .ok (.iconst 4, 1) := by decide +kernel
theorem dX14_time_47 : decode cX14_time 47 = .ok (.idiv, 1) := by decide +kernel
theorem dX14_time_48 : decode cX14_time 48 = .ok (.isub, 1) := by decide +kernel
theorem dX14_time_49 : decode cX14_time 49 = .ok (.iadd, 1) := by decide +kernel
theorem dX14_time_50 : decode cX14_time 50 = .ok (.putfield 117, 3) := by decide +kernel
theorem dX14_time_53 : decode cX14_time 53 = .ok (.goto 23, 3) := by decide +kernel
theorem dX14_time_56 : decode cX14_time 56 = .ok (.aload_n 0, 1) := by decide +kernel
theorem dX14_time_57 : decode cX14_time 57 = .ok (.iconst 1, 1) := by decide +kernel
theorem dX14_time_58 : decode cX14_time 58 = .ok (.putfield 111, 3) := by decide +kernel
theorem dX14_time_61 : decode cX14_time 61 = .ok (.aload_n 0, 1) := by decide +kernel
theorem dX14_time_62 : decode cX14_time 62 = .ok (.bipush 8, 2) := by decide +kernel
theorem dX14_time_64 : decode cX14_time 64 = .ok (.iload_n 1, 1) := by decide +kernel
theorem dX14_time_65 : decode cX14_time 65 = .ok (.imul, 1) := by decide +kernel
theorem dX14_time_66 : decode cX14_time 66 = .ok (.putfield 114, 3) := by decide +kernel
theorem dX14_time_69 : decode cX14_time 69 = .ok (.aload_n 0, 1) := by decide +kernel
theorem dX14_time_70 : decode cX14_time 70 = .ok (.iconst 2, 1) := by decide +kernel
theorem dX14_time_71 : decode cX14_time 71 = .ok (.iload_n 1, 1) := by decide +kernel
theorem dX14_time_72 : decode cX14_time 72 = .ok (.imul, 1) := by decide +kernel
theorem dX14_time_73 : decode cX14_time 73 = .ok (.putfield 117, 3) := by decide +kernel
theorem dX14_time_76 : decode cX14_time 76 = .ok (.aload_n 0, 1) := by decide +kernel
theorem dX14_time_77 : decode cX14_time 77 = .ok (.getfield 114, 3) := by decide +kernel
theorem dX14_time_80 : decode cX14_time 80 = .ok (.bipush 8, 2) := by decide +kernel
theorem dX14_time_82 : decode cX14_time 82 = .ok (.idiv, 1) := by decide +kernel
theorem dX14_time_83 : decode cX14_time 83 = .ok (.aload_n 0, 1) := by decide +kernel
theorem dX14_time_84 : decode cX14_time 84 = .ok (.getfield 117, 3) := by decide +kernel
theorem dX14_time_87 : decode cX14_time 87 = .ok (.iconst 1, 1) := by decide +kernel
theorem dX14_time_88 : decode cX14_time 88 = .ok (.if_icmp .le 10, 3) := by decide +kernel
theorem dX14_time_91 : decode cX14_time 91 = .ok (.aload_n 0, 1) := by decide +kernel
theorem dX14_time_92 : decode cX14_time 92 = .ok (.getfield 117, 3) := by decide +kernel
theorem dX14_time_95 : decode cX14_time 95 = .ok (.goto 4, 3) := by decide +kernel
theorem dX14_time_98 : decode cX14_time 98 = .ok (.iconst 1, 1) := by decide +kernel
theorem dX14_time_99 : decode cX14_time 99 = .ok (.iadd, 1) := by decide +kernel
theorem dX14_time_100 : decode cX14_time 100 = .ok (.istore_n 2, 1) := by decide +kernel
theorem dX14_time_101 : decode cX14_time 101 = .ok (.aload_n 0, 1) := by decide +kernel
theorem dX14_time_102 : decode cX14_time 102 = .ok (.iload_n 2, 1) := by decide +kernel
theorem dX14_time_103 : decode cX14_time 103 = .ok (.bipush 20, 2) := by decide +kernel
theorem dX14_time_105 : decode cX14_time 105 = .ok (.if_icmp .ge 8, 3) := by decide +kernel
theorem dX14_time_108 : decode cX14_time 108 = .ok (.bipush 20, 2) := by decide +kernel
theorem dX14_time_110 : decode cX14_time 110 = .ok (.goto 17, 3) := by decide +kernel
theorem dX14_time_113 : decode cX14_time 113 = .ok (.iload_n 2, 1) := by decide +kernel
theorem dX14_time_114 : decode cX14_time 114 = .ok (.sipush 1200, 3) := by decide +kernel
theorem dX14_time_117 : decode cX14_time 117 = .ok (.if_icmp .le 9, 3) := by decide +kernel
theorem dX14_time_120 : decode cX14_time 120 = .ok (.sipush 1200, 3) := by decide +kernel
theorem dX14_time_123 : decode cX14_time 123 = .ok (.goto 4, 3) := by decide +kernel
theorem dX14_time_126 : decode cX14_time 126 = .ok (.iload_n 2, 1) := by decide +kernel
theorem dX14_time_127 : decode cX14_time 127 = .ok (.putfield 102, 3) := by decide +kernel
theorem dX14_time_130 : decode cX14_time 130 = .ok (.return_, 1) := by decide +kernel
theorem dX14_fits_0 : decode cX14_fits 0 = .ok (.iload_n 1, 1) := by decide +kernel
theorem dX14_fits_1 : decode cX14_fits 1 = .ok (.aload_n 0, 1) := by decide +kernel
theorem dX14_fits_2 : decode cX14_fits 2 = .ok (.getfield 66, 3) := by decide +kernel
theorem dX14_fits_5 : decode cX14_fits 5 = .ok (.isub, 1) := by decide +kernel
theorem dX14_fits_6 : decode cX14_fits 6 = .ok (.istore_n 3, 1) := by decide +kernel
theorem dX14_fits_7 : decode cX14_fits 7 = .ok (.iload_n 2, 1) := by decide +kernel
theorem dX14_fits_8 : decode cX14_fits 8 = .ok (.ifCond .ne 25, 3) := by decide +kernel
theorem dX14_fits_11 : decode cX14_fits 11 = .ok (.iload_n 3, 1) := by decide +kernel
theorem dX14_fits_12 : decode cX14_fits 12 = .ok (.ifCond .eq 15, 3) := by decide +kernel
theorem dX14_fits_15 : decode cX14_fits 15 = .ok (.iload_n 3, 1) := by decide +kernel
theorem dX14_fits_16 : decode cX14_fits 16 = .ok (.ifCond .le 15, 3) := by decide +kernel
theorem dX14_fits_19 : decode cX14_fits 19 = .ok (.iload_n 3, 1) := by decide +kernel
theorem dX14_fits_20 : decode cX14_fits 20 = .ok (.aload_n 0, 1) := by decide +kernel
theorem dX14_fits_21 : decode cX14_fits 21 = .ok (.invokevirtual 169, 3) := by decide +kernel
theorem dX14_fits_24 : decode cX14_fits 24 = .ok (.if_icmp .ge 7, 3) := by decide +kernel
theorem dX14_fits_27 : decode cX14_fits 27 = .ok (.iconst 1, 1) := by decide +kernel
theorem dX14_fits_28 : decode cX14_fits 28 = .ok (.goto 4, 3) := by decide +kernel
theorem dX14_fits_31 : decode cX14_fits 31 = .ok (.iconst 0, 1) := by decide +kernel
theorem dX14_fits_32 : decode cX14_fits 32 = .ok (.ireturn, 1) := by decide +kernel
theorem dX14_fits_33 : decode cX14_fits 33 = .ok (.iload_n 3, 1) := by decide +kernel
theorem dX14_fits_34 : decode cX14_fits 34 = .ok (.aload_n 0, 1) := by decide +kernel
theorem dX14_fits_35 : decode cX14_fits 35 = .ok (.invokevirtual 169, 3) := by decide +kernel
theorem dX14_fits_38 : decode cX14_fits 38 = .ok (.if_icmp .ge 20, 3) := by decide +kernel
theorem dX14_fits_41 : decode cX14_fits 41 = .ok (.iload_n 3, 1) := by decide +kernel
theorem dX14_fits_42 : decode cX14_fits 42 = .ok (.iload_n 2, 1) := by decide +kernel
theorem dX14_fits_43 : decode cX14_fits 43 = .ok (.iadd, 1) := by decide +kernel
theorem dX14_fits_44 : decode cX14_fits 44 = .ok (.ifCond .le 14, 3) := by decide +kernel
theorem dX14_fits_47 : decode cX14_fits 47 = .ok (.aload_n 0, 1) := by decide +kernel
theorem dX14_fits_48 : decode cX14_fits 48 = .ok (.invokevirtual 169, 3) := by decide +kernel
theorem dX14_fits_51 : decode cX14_fits 51 = .ok (.ifCond .le 7, 3) := by decide +kernel
theorem dX14_fits_54 : decode cX14_fits 54 = .ok (.iconst 1, 1) := by decide +kernel
theorem dX14_fits_55 : decode cX14_fits 55 = .ok (.goto 4, 3) := by decide +kernel
theorem dX14_fits_58 : decode cX14_fits 58 = .ok (.iconst 0, 1) := by decide +kernel
theorem dX14_fits_59 : decode cX14_fits 59 = .ok (.ireturn, 1) := by decide +kernel
theorem dX14_isNew_0 : decode cX14_isNew 0 = .ok (.aload_n 0, 1) := by decide +kernel
theorem dX14_isNew_1 : decode cX14_isNew 1 = .ok (.getfield 99, 3) := by decide +kernel
theorem dX14_isNew_4 : decode cX14_isNew 4 = .ok (.ifCond .ne 8, 3) := by decide +kernel
theorem dX14_isNew_7 : decode cX14_isNew 7 = .ok (.aload_n 0, 1) := by decide +kernel
theorem dX14_isNew_8 : decode cX14_isNew 8 = .ok (.iload_n 1, 1) := by decide +kernel
theorem dX14_isNew_9 : decode cX14_isNew 9 = .ok (.invokevirtual 166, 3) := by decide +kernel
theorem dX14_isNew_12 : decode cX14_isNew 12 = .ok (.aload_n 0, 1) := by decide +kernel
theorem dX14_isNew_13 : decode cX14_isNew 13 = .ok (.getfield 108, 3) := by decide +kernel
theorem dX14_isNew_16 : decode cX14_isNew 16 = .ok (.ifCond .ne 21, 3) := by decide +kernel
theorem dX14_isNew_19 : decode cX14_isNew 19 = .ok (.aload_n 0, 1) := by decide +kernel
theorem dX14_isNew_20 : decode cX14_isNew 20 = .ok (.iconst 1, 1) := by decide +kernel
theorem dX14_isNew_21 : decode cX14_isNew 21 = .ok (.putfield 108, 3) := by decide +kernel
theorem dX14_isNew_24 : decode cX14_isNew 24 = .ok (.aload_n 0, 1) := by decide +kernel
theorem dX14_isNew_25 : decode cX14_isNew 25 = .ok (.aload_n 0, 1) := by decide +kernel
theorem dX14_isNew_26 : decode cX14_isNew 26 = .ok (.getfield 48, 3) := by decide +kernel
theorem dX14_isNew_29 : decode cX14_isNew 29 = .ok (.putfield 156, 3) := by decide +kernel
theorem dX14_isNew_32 : decode cX14_isNew 32 = .ok (.aload_n 0, 1) := by decide +kernel
theorem dX14_isNew_33 : decode cX14_isNew 33 = .ok (.iload_n 1, 1) := by decide +kernel
theorem dX14_isNew_34 : decode cX14_isNew 34 = .ok (.putfield 159, 3) := by decide +kernel
theorem dX14_isNew_37 : decode cX14_isNew 37 = .ok (.return_, 1) := by decide +kernel
theorem dX14_ring_0 : decode cX14_ring 0 = .ok (.aload_n 0, 1) := by decide +kernel
theorem dX14_ring_1 : decode cX14_ring 1 = .ok (.iconst 0, 1) := by decide +kernel
theorem dX14_ring_2 : decode cX14_ring 2 = .ok (.putfield 99, 3) := by decide +kernel
theorem dX14_ring_5 : decode cX14_ring 5 = .ok (.aload_n 0, 1) := by decide +kernel
theorem dX14_ring_6 : decode cX14_ring 6 = .ok (.dup, 1) := by decide +kernel
theorem dX14_ring_7 : decode cX14_ring 7 = .ok (.getfield 105, 3) := by decide +kernel
theorem dX14_ring_10 : decode cX14_ring 10 = .ok (.iconst 1, 1) := by decide +kernel
theorem dX14_ring_11 : decode cX14_ring 11 = .ok (.iadd, 1) := by decide +kernel
theorem dX14_ring_12 : decode cX14_ring 12 = .ok (.putfield 105, 3) := by decide +kernel
theorem dX14_ring_15 : decode cX14_ring 15 = .ok (.aload_n 0, 1) := by decide +kernel
theorem dX14_ring_16 : decode cX14_ring 16 = .ok (.getfield 105, 3) := by decide +kernel
theorem dX14_ring_19 : decode cX14_ring 19 = .ok (.bipush 8, 2) := by decide +kernel
theorem dX14_ring_21 : decode cX14_ring 21 = .ok (.if_icmp .le 11, 3) := by decide +kernel
theorem dX14_ring_24 : decode cX14_ring 24 = .ok (.aload_n 0, 1) := by decide +kernel
theorem dX14_ring_25 : decode cX14_ring 25 = .ok (.bipush 11, 2) := by decide +kernel
theorem dX14_ring_27 : decode cX14_ring 27 = .ok (.iload_n 1, 1) := by decide +kernel
theorem dX14_ring_28 : decode cX14_ring 28 = .ok (.invokevirtual 172, 3) := by decide +kernel
theorem dX14_ring_31 : decode cX14_ring 31 = .ok (.return_, 1) := by decide +kernel
theorem dX14_ring_32 : decode cX14_ring 32 = .ok (.aload_n 0, 1) := by decide +kernel
theorem dX14_ring_33 : decode cX14_ring 33 = .ok (.getfield 45, 3) := by decide +kernel
theorem dX14_ring_36 : decode cX14_ring 36 = .ok (.aload_n 0, 1) := by decide +kernel
theorem dX14_ring_37 : decode cX14_ring 37 = .ok (.getfield 48, 3) := by decide +kernel
theorem dX14_ring_40 : decode cX14_ring 40 = .ok (.if_icmp .ne 11, 3) := by decide +kernel
theorem dX14_ring_43 : decode cX14_ring 43 = .ok (.aload_n 0, 1) := by decide +kernel
theorem dX14_ring_44 : decode cX14_ring 44 = .ok (.iconst 1, 1) := by decide +kernel
theorem dX14_ring_45 : decode cX14_ring 45 = .ok (.putfield 93, 3) := by decide +kernel
theorem dX14_ring_48 : decode cX14_ring 48 = .ok (.goto 32, 3) := by decide +kernel
theorem dX14_ring_51 : decode cX14_ring 51 = .ok (.aload_n 0, 1) := by decide +kernel
theorem dX14_ring_52 : decode cX14_ring 52 = .ok (.getfield 29, 3) := by decide +kernel
theorem dX14_ring_55 : decode cX14_ring 55 = .ok (.iconst 2, 1) := by decide +kernel
theorem dX14_ring_56 : decode cX14_ring 56 = .ok (.if_icmp .eq 11, 3) := by decide +kernel
theorem dX14_ring_59 : decode cX14_ring 59 = .ok (.aload_n 0, 1) := by decide +kernel
theorem dX14_ring_60 : decode cX14_ring 60 = .ok (.getfield 29, 3) := by decide +kernel
theorem dX14_ring_63 : decode cX14_ring 63 = .ok (.iconst 3, 1) := by decide +kernel
theorem dX14_ring_64 : decode cX14_ring 64 = .ok (.if_icmp .ne 11, 3) := by decide +kernel
theorem dX14_ring_67 : decode cX14_ring 67 = .ok (.aload_n 0, 1) := by decide +kernel
theorem dX14_ring_68 : decode cX14_ring 68 = .ok (.iconst 1, 1) := by decide +kernel
theorem dX14_ring_69 : decode cX14_ring 69 = .ok (.putfield 84, 3) := by decide +kernel
theorem dX14_ring_72 : decode cX14_ring 72 = .ok (.goto 8, 3) := by decide +kernel
theorem dX14_ring_75 : decode cX14_ring 75 = .ok (.aload_n 0, 1) := by decide +kernel
theorem dX14_ring_76 : decode cX14_ring 76 = .ok (.iconst 1, 1) := by decide +kernel
theorem dX14_ring_77 : decode cX14_ring 77 = .ok (.putfield 90, 3) := by decide +kernel
theorem dX14_ring_80 : decode cX14_ring 80 = .ok (.aload_n 0, 1) := by decide +kernel
theorem dX14_ring_81 : decode cX14_ring 81 = .ok (.iconst 2, 1) := by decide +kernel
theorem dX14_ring_82 : decode cX14_ring 82 = .ok (.aload_n 0, 1) := by decide +kernel
theorem dX14_ring_83 : decode cX14_ring 83 = .ok (.getfield 102, 3) := by decide +kernel
theorem dX14_ring_86 : decode cX14_ring 86 = .ok (.imul, 1) := by decide +kernel
theorem dX14_ring_87 : decode cX14_ring 87 = .ok (.sipush 1200, 3) := by decide +kernel
theorem dX14_ring_90 : decode cX14_ring 90 = .ok (.if_icmp .le 9, 3) := by decide +kernel
theorem dX14_ring_93 : decode cX14_ring 93 = .ok (.sipush 1200, 3) := by decide +kernel
theorem dX14_ring_96 : decode cX14_ring 96 = .ok (.goto 9, 3) := by decide +kernel
theorem dX14_ring_99 : decode cX14_ring 99 = .ok (.iconst 2, 1) := by decide +kernel
theorem dX14_ring_100 : decode cX14_ring 100 = .ok (.aload_n 0, 1) := by decide +kernel
theorem dX14_ring_101 : decode cX14_ring 101 = .ok (.getfield 102, 3) := by decide +kernel
theorem dX14_ring_104 : decode cX14_ring 104 = .ok (.imul, 1) := by decide +kernel
theorem dX14_ring_105 : decode cX14_ring 105 = .ok (.putfield 102, 3) := by decide +kernel
theorem dX14_ring_108 : decode cX14_ring 108 = .ok (.aload_n 0, 1) := by decide +kernel
theorem dX14_ring_109 : decode cX14_ring 109 = .ok (.iload_n 1, 1) := by decide +kernel
theorem dX14_ring_110 : decode cX14_ring 110 = .ok (.invokevirtual 166, 3) := by decide +kernel
theorem dX14_ring_113 : decode cX14_ring 113 = .ok (.return_, 1) := by decide +kernel
theorem dX14_persist_0 : decode cX14_persist 0 = .ok (.aload_n 0, 1) := by decide +kernel
theorem dX14_persist_1 : decode cX14_persist 1 = .ok (.getfield 99, 3) := by decide +kernel
theorem dX14_persist_4 : decode cX14_persist 4 = .ok (.ifCond .ne 33, 3) := by decide +kernel
theorem dX14_persist_7 : decode cX14_persist 7 = .ok (.aload_n 0, 1) := by decide +kernel
theorem dX14_persist_8 : decode cX14_persist 8 = .ok (.getfield 45, 3) := by decide +kernel
theorem dX14_persist_11 : decode cX14_persist 11 = .ok (.aload_n 0, 1) := by decide +kernel
theorem dX14_persist_12 : decode cX14_persist 12 = .ok (.getfield 48, 3) := by decide +kernel
theorem dX14_persist_15 : decode cX14_persist 15 = .ok (.if_icmp .ne 22, 3) := by decide +kernel
theorem dX14_persist_18 : decode cX14_persist 18 = .ok (.aload_n 0, 1) := by decide +kernel
theorem dX14_persist_19 : decode cX14_persist 19 = .ok (.getfield 57, 3) := by decide +kernel
theorem dX14_persist_22 : decode cX14_persist 22 = .ok (.ifCond .ne 15, 3) := by decide +kernel
theorem dX14_persist_25 : decode cX14_persist 25 = .ok (.aload_n 0, 1) := by decide +kernel
theorem dX14_persist_26 : decode cX14_persist 26 = .ok (.invokevirtual 176, 3) := by decide +kernel
theorem dX14_persist_29 : decode cX14_persist 29 = .ok (.ifCond .eq 8, 3) := by decide +kernel
theorem dX14_persist_32 : decode cX14_persist 32 = .ok (.aload_n 0, 1) := by decide +kernel
theorem dX14_persist_33 : decode cX14_persist 33 = .ok (.iload_n 1, 1) := by decide +kernel
theorem dX14_persist_34 : decode cX14_persist 34 = .ok (.invokevirtual 166, 3) := by decide +kernel
theorem dX14_persist_37 : decode cX14_persist 37 = .ok (.return_, 1) := by decide +kernel
theorem dX14_read_0 : decode cX14_read 0 = .ok (.aload_n 0, 1) := by decide +kernel
theorem dX14_read_1 : decode cX14_read 1 = .ok (.getfield 42, 3) := by decide +kernel
theorem dX14_read_4 : decode cX14_read 4 = .ok (.sipush 1024, 3) := by decide +kernel
theorem dX14_read_7 : decode cX14_read 7 = .ok (.if_icmp .ge 10, 3) := by decide +kernel
theorem dX14_read_10 : decode cX14_read 10 = .ok (.aload_n 0, 1) := by decide +kernel
theorem dX14_read_11 : decode cX14_read 11 = .ok (.getfield 42, 3) := by decide +kernel
theorem dX14_read_14 : decode cX14_read 14 = .ok (.goto 6, 3) := by decide +kernel
theorem dX14_read_17 : decode cX14_read 17 = .ok (.sipush 1024, 3) := by decide +kernel
theorem dX14_read_20 : decode cX14_read 20 = .ok (.istore_n 1, 1) := by decide +kernel
theorem dX14_read_21 : decode cX14_read 21 = .ok (.aload_n 0, 1) := by decide +kernel
theorem dX14_read_22 : decode cX14_read 22 = .ok (.invokevirtual 169, 3) := by decide +kernel
theorem dX14_read_25 : decode cX14_read 25 = .ok (.iload_n 1, 1) := by decide +kernel
theorem dX14_read_26 : decode cX14_read 26 = .ok (.if_icmp .ge 7, 3) := by decide +kernel
theorem dX14_read_29 : decode cX14_read 29 = .ok (.iconst 1, 1) := by decide +kernel
theorem dX14_read_30 : decode cX14_read 30 = .ok (.goto 4, 3) := by decide +kernel
theorem dX14_read_33 : decode cX14_read 33 = .ok (.iconst 0, 1) := by decide +kernel
theorem dX14_read_34 : decode cX14_read 34 = .ok (.istore_n 2, 1) := by decide +kernel
theorem dX14_read_35 : decode cX14_read 35 = .ok (.aload_n 0, 1) := by decide +kernel
theorem dX14_read_36 : decode cX14_read 36 = .ok (.getfield 15, 3) := by decide +kernel
theorem dX14_read_39 : decode cX14_read 39 = .ok (.aload_n 0, 1) := by decide +kernel
theorem dX14_read_40 : decode cX14_read 40 = .ok (.getfield 72, 3) := by decide +kernel
theorem dX14_read_43 : decode cX14_read 43 = .ok (.sipush 2047, 3) := by decide +kernel
theorem dX14_read_46 : decode cX14_read 46 = .ok (.iand, 1) := by decide +kernel
theorem dX14_read_47 : decode cX14_read 47 = .ok (.baload, 1) := by decide +kernel
theorem dX14_read_48 : decode cX14_read 48 = .ok (.sipush 255, 3) := by decide +kernel
theorem dX14_read_51 : decode cX14_read 51 = .ok (.iand, 1) := by decide +kernel
theorem dX14_read_52 : decode cX14_read 52 = .ok (.istore_n 3, 1) := by decide +kernel
theorem dX14_read_53 : decode cX14_read 53 = .ok (.aload_n 0, 1) := by decide +kernel
theorem dX14_read_54 : decode cX14_read 54 = .ok (.dup, 1) := by decide +kernel
theorem dX14_read_55 : decode cX14_read 55 = .ok (.getfield 72, 3) := by decide +kernel
theorem dX14_read_58 : decode cX14_read 58 = .ok (.iconst 1, 1) := by decide +kernel
theorem dX14_read_59 : decode cX14_read 59 = .ok (.iadd, 1) := by decide +kernel
theorem dX14_read_60 : decode cX14_read 60 = .ok (.putfield 72, 3) := by decide +kernel
theorem dX14_read_63 : decode cX14_read 63 = .ok (.iload_n 2, 1) := by decide +kernel
theorem dX14_read_64 : decode cX14_read 64 = .ok (.ifCond .eq 41, 3) := by decide +kernel
theorem dX14_read_67 : decode cX14_read 67 = .ok (.aload_n 0, 1) := by decide +kernel
theorem dX14_read_68 : decode cX14_read 68 = .ok (.invokevirtual 169, 3) := by decide +kernel
theorem dX14_read_71 : decode cX14_read 71 = .ok (.iload_n 1, 1) := by decide +kernel
theorem dX14_read_72 : decode cX14_read 72 = .ok (.if_icmp .lt 33, 3) := by decide +kernel
theorem dX14_read_75 : decode cX14_read 75 = .ok (.aload_n 0, 1) := by decide +kernel
theorem dX14_read_76 : decode cX14_read 76 = .ok (.getfield 29, 3) := by decide +kernel
theorem dX14_read_79 : decode cX14_read 79 = .ok (.iconst 4, 1) := by decide +kernel
theorem dX14_read_80 : decode cX14_read 80 = .ok (.if_icmp .eq 20, 3) := by decide +kernel
theorem dX14_read_83 : decode cX14_read 83 = .ok (.aload_n 0, 1) := by decide +kernel
theorem dX14_read_84 : decode cX14_read 84 = .ok (.getfield 29, 3) := by decide +kernel
theorem dX14_read_87 : decode cX14_read 87 = .ok (.iconst 5, 1) := by decide +kernel
theorem dX14_read_88 : decode cX14_read 88 = .ok (.if_icmp .eq 12, 3) := by decide +kernel
theorem dX14_read_91 : decode cX14_read 91 = .ok (.aload_n 0, 1) := by decide +kernel
theorem dX14_read_92 : decode cX14_read 92 = .ok (.getfield 29, 3) := by decide +kernel
theorem dX14_read_95 : decode cX14_read 95 = .ok (.bipush 6, 2) := by decide +kernel
theorem dX14_read_97 : decode cX14_read 97 = .ok (.if_icmp .ne 8, 3) := by decide +kernel
theorem dX14_read_100 : decode cX14_read 100 = .ok (.aload_n 0, 1) := by decide +kernel
theorem dX14_read_101 : decode cX14_read 101 = .ok (.iconst 1, 1) := by decide +kernel
theorem dX14_read_102 : decode cX14_read 102 = .ok (.putfield 96, 3) := by decide +kernel
theorem dX14_read_105 : decode cX14_read 105 = .ok (.iload_n 3, 1) := by decide +kernel
theorem dX14_read_106 : decode cX14_read 106 = .ok (.ireturn, 1) := by decide +kernel
theorem dX14_canWrite_0 : decode cX14_canWrite 0 = .ok (.aload_n 0, 1) := by decide +kernel
theorem dX14_canWrite_1 : decode cX14_canWrite 1 = .ok (.getfield 54, 3) := by decide +kernel
theorem dX14_canWrite_4 : decode cX14_canWrite 4 = .ok (.ifCond .ne 22, 3) := by decide +kernel
theorem dX14_canWrite_7 : decode cX14_canWrite 7 = .ok (.aload_n 0, 1) := by decide +kernel
theorem dX14_canWrite_8 : decode cX14_canWrite 8 = .ok (.invokevirtual 179, 3) := by decide +kernel
theorem dX14_canWrite_11 : decode cX14_canWrite 11 = .ok (.ifCond .ne 15, 3) := by decide +kernel
theorem dX14_canWrite_14 : decode cX14_canWrite 14 = .ok (.aload_n 0, 1) := by decide +kernel
theorem dX14_canWrite_15 : decode cX14_canWrite 15 = .ok (.getfield 29, 3) := by decide +kernel
theorem dX14_canWrite_18 : decode cX14_canWrite 18 = .ok (.iconst 1, 1) := by decide +kernel
theorem dX14_canWrite_19 : decode cX14_canWrite 19 = .ok (.if_icmp .eq 7, 3) := by decide +kernel
theorem dX14_canWrite_22 : decode cX14_canWrite 22 = .ok (.iconst 1, 1) := by decide +kernel
theorem dX14_canWrite_23 : decode cX14_canWrite 23 = .ok (.goto 4, 3) := by decide +kernel
theorem dX14_canWrite_26 : decode cX14_canWrite 26 = .ok (.iconst 0, 1) := by decide +kernel
theorem dX14_canWrite_27 : decode cX14_canWrite 27 = .ok (.ireturn, 1) := by decide +kernel
theorem dX14_close_0 : decode cX14_close 0 = .ok (.aload_n 0, 1) := by decide +kernel
theorem dX14_close_1 : decode cX14_close 1 = .ok (.iconst 1, 1) := by decide +kernel
theorem dX14_close_2 : decode cX14_close 2 = .ok (.putfield 54, 3) := by decide +kernel
theorem dX14_close_5 : decode cX14_close 5 = .ok (.aload_n 0, 1) := by decide +kernel
theorem dX14_close_6 : decode cX14_close 6 = .ok (.getfield 29, 3) := by decide +kernel
theorem dX14_close_9 : decode cX14_close 9 = .ok (.iconst 1, 1) := by decide +kernel
theorem dX14_close_10 : decode cX14_close 10 = .ok (.if_icmp .eq 11, 3) := by decide +kernel
theorem dX14_close_13 : decode cX14_close 13 = .ok (.aload_n 0, 1) := by decide +kernel
theorem dX14_close_14 : decode cX14_close 14 = .ok (.getfield 29, 3) := by decide +kernel
theorem dX14_close_17 : decode cX14_close 17 = .ok (.iconst 2, 1) := by decide +kernel
theorem dX14_close_18 : decode cX14_close 18 = .ok (.if_icmp .ne 12, 3) := by decide +kernel
theorem dX14_close_21 : decode cX14_close 21 = .ok (.aload_n 0, 1) := by decide +kernel
theorem dX14_close_22 : decode cX14_close 22 = .ok (.iconst 0, 1) := by decide +kernel
theorem dX14_close_23 : decode cX14_close 23 = .ok (.iload_n 1, 1) := by decide +kernel
theorem dX14_close_24 : decode cX14_close 24 = .ok (.invokevirtual 172, 3) := by decide +kernel
theorem dX14_close_27 : decode cX14_close 27 = .ok (.goto 34, 3) := by decide +kernel
theorem dX14_close_30 : decode cX14_close 30 = .ok (.aload_n 0, 1) := by decide +kernel
theorem dX14_close_31 : decode cX14_close 31 = .ok (.getfield 29, 3) := by decide +kernel
theorem dX14_close_34 : decode cX14_close 34 = .ok (.iconst 4, 1) := by decide +kernel
theorem dX14_close_35 : decode cX14_close 35 = .ok (.if_icmp .ne 11, 3) := by decide +kernel
theorem dX14_close_38 : decode cX14_close 38 = .ok (.aload_n 0, 1) := by decide +kernel
theorem dX14_close_39 : decode cX14_close 39 = .ok (.iconst 5, 1) := by decide +kernel
theorem dX14_close_40 : decode cX14_close 40 = .ok (.putfield 29, 3) := by decide +kernel
theorem dX14_close_43 : decode cX14_close 43 = .ok (.goto 18, 3) := by decide +kernel
theorem dX14_close_46 : decode cX14_close 46 = .ok (.aload_n 0, 1) := by decide +kernel
theorem dX14_close_47 : decode cX14_close 47 = .ok (.getfield 29, 3) := by decide +kernel
theorem dX14_close_50 : decode cX14_close 50 = .ok (.bipush 7, 2) := by decide +kernel
theorem dX14_close_52 : decode cX14_close 52 = .ok (.if_icmp .ne 9, 3) := by decide +kernel
theorem dX14_close_55 : decode cX14_close 55 = .ok (.aload_n 0, 1) := by decide +kernel
theorem dX14_close_56 : decode cX14_close 56 = .ok (.bipush 9, 2) := by decide +kernel
theorem dX14_close_58 : decode cX14_close 58 = .ok (.putfield 29, 3) := by decide +kernel
theorem dX14_close_61 : decode cX14_close 61 = .ok (.return_, 1) := by decide +kernel
theorem dX14_abort_0 : decode cX14_abort 0 = .ok (.aload_n 0, 1) := by decide +kernel
theorem dX14_abort_1 : decode cX14_abort 1 = .ok (.getfield 29, 3) := by decide +kernel
theorem dX14_abort_4 : decode cX14_abort 4 = .ok (.iconst 1, 1) := by decide +kernel
theorem dX14_abort_5 : decode cX14_abort 5 = .ok (.if_icmp .eq 24, 3) := by decide +kernel
theorem dX14_abort_8 : decode cX14_abort 8 = .ok (.aload_n 0, 1) := by decide +kernel
theorem dX14_abort_9 : decode cX14_abort 9 = .ok (.getfield 29, 3) := by decide +kernel
theorem dX14_abort_12 : decode cX14_abort 12 = .ok (.iconst 2, 1) := by decide +kernel
theorem dX14_abort_13 : decode cX14_abort 13 = .ok (.if_icmp .eq 16, 3) := by decide +kernel
theorem dX14_abort_16 : decode cX14_abort 16 = .ok (.aload_n 0, 1) := by decide +kernel
theorem dX14_abort_17 : decode cX14_abort 17 = .ok (.getfield 29, 3) := by decide +kernel
theorem dX14_abort_20 : decode cX14_abort 20 = .ok (.bipush 10, 2) := by decide +kernel
theorem dX14_abort_22 : decode cX14_abort 22 = .ok (.if_icmp .eq 7, 3) := by decide +kernel
theorem dX14_abort_25 : decode cX14_abort 25 = .ok (.iconst 1, 1) := by decide +kernel
theorem dX14_abort_26 : decode cX14_abort 26 = .ok (.goto 4, 3) := by decide +kernel
theorem dX14_abort_29 : decode cX14_abort 29 = .ok (.iconst 0, 1) := by decide +kernel
theorem dX14_abort_30 : decode cX14_abort 30 = .ok (.istore_n 2, 1) := by decide +kernel
theorem dX14_abort_31 : decode cX14_abort 31 = .ok (.aload_n 0, 1) := by decide +kernel
theorem dX14_abort_32 : decode cX14_abort 32 = .ok (.bipush 11, 2) := by decide +kernel
theorem dX14_abort_34 : decode cX14_abort 34 = .ok (.iload_n 1, 1) := by decide +kernel
theorem dX14_abort_35 : decode cX14_abort 35 = .ok (.invokevirtual 172, 3) := by decide +kernel
theorem dX14_abort_38 : decode cX14_abort 38 = .ok (.iload_n 2, 1) := by decide +kernel
theorem dX14_abort_39 : decode cX14_abort 39 = .ok (.ifCond .eq 28, 3) := by decide +kernel
theorem dX14_abort_42 : decode cX14_abort 42 = .ok (.aload_n 0, 1) := by decide +kernel
theorem dX14_abort_43 : decode cX14_abort 43 = .ok (.bipush 12, 2) := by decide +kernel
theorem dX14_abort_45 : decode cX14_abort 45 = .ok (.aload_n 0, 1) := by decide +kernel
theorem dX14_abort_46 : decode cX14_abort 46 = .ok (.getfield 48, 3) := by decide +kernel
theorem dX14_abort_49 : decode cX14_abort 49 = .ok (.aload_n 0, 1) := by decide +kernel
theorem dX14_abort_50 : decode cX14_abort 50 = .ok (.getfield 69, 3) := by decide +kernel
theorem dX14_abort_53 : decode cX14_abort 53 = .ok (.ifCond .eq 10, 3) := by decide +kernel
theorem dX14_abort_56 : decode cX14_abort 56 = .ok (.aload_n 0, 1) := by decide +kernel
theorem dX14_abort_57 : decode cX14_abort 57 = .ok (.getfield 66, 3) := by decide +kernel
theorem dX14_abort_60 : decode cX14_abort 60 = .ok (.goto 4, 3) := by decide +kernel
theorem dX14_abort_63 : decode cX14_abort 63 = .ok (.iconst 0, 1) := by decide +kernel
theorem dX14_abort_64 : decode cX14_abort 64 = .ok (.invokevirtual 182, 3) := by decide +kernel
theorem dX14_abort_67 : decode cX14_abort 67 = .ok (.return_, 1) := by decide +kernel
theorem dX15_init_0 : decode cX15_init 0 = .ok (.aload_n 0, 1) := by decide +kernel
theorem dX15_init_1 : decode cX15_init 1 = .ok (.invokespecial 1, 3) := by decide +kernel
theorem dX15_init_4 : decode cX15_init 4 = .ok (.aload_n 0, 1) := by decide +kernel
theorem dX15_init_5 : decode cX15_init 5 = .ok (.bipush 16, 2) := by decide +kernel
theorem dX15_init_7 : decode cX15_init 7 = .ok (.newarray .boolean, 2) := by decide +kernel
theorem dX15_init_9 : decode cX15_init 9 = .ok (.putfield 7, 3) := by decide +kernel
theorem dX15_init_12 : decode cX15_init 12 = .ok (.aload_n 0, 1) := by decide +kernel
theorem dX15_init_13 : decode cX15_init 13 = .ok (.bipush 16, 2) := by decide +kernel
theorem dX15_init_15 : decode cX15_init 15 = .ok (.newarray .int, 2) := by decide +kernel
theorem dX15_init_17 : decode cX15_init 17 = .ok (.putfield 13, 3) := by decide +kernel
theorem dX15_init_20 : decode cX15_init 20 = .ok (.return_, 1) := by decide +kernel
theorem dX16_init_0 : decode cX16_init 0 = .ok (.aload_n 0, 1) := by decide +kernel
theorem dX16_init_1 : decode cX16_init 1 = .ok (.invokespecial 1, 3) := by decide +kernel
theorem dX16_init_4 : decode cX16_init 4 = .ok (.aload_n 0, 1) := by decide +kernel
theorem dX16_init_5 : decode cX16_init 5 = .ok (.iconst 1, 1) := by decide +kernel
theorem dX16_init_6 : decode cX16_init 6 = .ok (.putfield 7, 3) := by decide +kernel
theorem dX16_init_9 : decode cX16_init 9 = .ok (.aload_n 0, 1) := by decide +kernel
theorem dX16_init_10 : decode cX16_init 10 = .ok (.bipush 8, 2) := by decide +kernel
theorem dX16_init_12 : decode cX16_init 12 = .ok (.anewarray 13, 3) := by decide +kernel
theorem dX16_init_15 : decode cX16_init 15 = .ok (.putfield 15, 3) := by decide +kernel
theorem dX16_init_18 : decode cX16_init 18 = .ok (.aload_n 0, 1) := by decide +kernel
theorem dX16_init_19 : decode cX16_init 19 = .ok (.bipush 64, 2) := by decide +kernel
theorem dX16_init_21 : decode cX16_init 21 = .ok (.newarray .int, 2) := by decide +kernel
theorem dX16_init_23 : decode cX16_init 23 = .ok (.putfield 19, 3) := by decide +kernel
theorem dX16_init_26 : decode cX16_init 26 = .ok (.return_, 1) := by decide +kernel
theorem dX17_init_0 : decode cX17_init 0 = .ok (.aload_n 0, 1) := by decide +kernel
theorem dX17_init_1 : decode cX17_init 1 = .ok (.invokespecial 3, 3) := by decide +kernel
theorem dX17_init_4 : decode cX17_init 4 = .ok (.aload_n 0, 1) := by decide +kernel
theorem dX17_init_5 : decode cX17_init 5 = .ok (.sipush 192, 3) := by decide +kernel
theorem dX17_init_8 : decode cX17_init 8 = .ok (.newarray .boolean, 2) := by decide +kernel
theorem dX17_init_10 : decode cX17_init 10 = .ok (.putfield 9, 3) := by decide +kernel
theorem dX17_init_13 : decode cX17_init 13 = .ok (.return_, 1) := by decide +kernel
theorem dX17_isWhole_0 : decode cX17_isWhole 0 = .ok (.iconst 0, 1) := by decide +kernel
theorem dX17_isWhole_1 : decode cX17_isWhole 1 = .ok (.istore_n 1, 1) := by decide +kernel
theorem dX17_isWhole_2 : decode cX17_isWhole 2 = .ok (.iload_n 1, 1) := by decide +kernel
theorem dX17_isWhole_3 : decode cX17_isWhole 3 = .ok (.aload_n 0, 1) := by decide +kernel
theorem dX17_isWhole_4 : decode cX17_isWhole 4 = .ok (.getfield 15, 3) := by decide +kernel
theorem dX17_isWhole_7 : decode cX17_isWhole 7 = .ok (.bipush 7, 2) := by decide +kernel
theorem dX17_isWhole_9 : decode cX17_isWhole 9 = .ok (.iadd, 1) := by decide +kernel
theorem dX17_isWhole_10 : decode cX17_isWhole 10 = .ok (.bipush 8, 2) := by decide +kernel
theorem dX17_isWhole_12 : decode cX17_isWhole 12 = .ok (.idiv, 1) := by decide +kernel
theorem dX17_isWhole_13 : decode cX17_isWhole 13 = .ok (.if_icmp .ge 20, 3) := by decide +kernel
theorem dX17_isWhole_16 : decode cX17_isWhole 16 = .ok (.aload_n 0, 1) := by decide +kernel
theorem dX17_isWhole_17 : decode cX17_isWhole 17 = .ok (.getfield 9, 3) := by decide +kernel
theorem dX17_isWhole_20 : decode cX17_isWhole 20 = .ok (.iload_n 1, 1) := by decide +kernel
theorem dX17_isWhole_21 : decode cX17_isWhole 21 = .ok (.baload, 1) := by decide +kernel
theorem dX17_isWhole_22 : decode cX17_isWhole 22 = .ok (.ifCond .ne 5, 3) := by decide +kernel
theorem dX17_isWhole_25 : decode cX17_isWhole 25 = .ok (.iconst 0, 1) := by decide +kernel
theorem dX17_isWhole_26 : decode cX17_isWhole 26 = .ok (.ireturn, 1) := by decide +kernel
theorem dX17_isWhole_27 : decode cX17_isWhole 27 = .ok (.iinc 1 1, 3) := by decide +kernel
theorem dX17_isWhole_30 : decode cX17_isWhole 30 = .ok (.goto (-28), 3) := by decide +kernel
theorem dX17_isWhole_33 : decode cX17_isWhole 33 = .ok (.aload_n 0, 1) := by decide +kernel
theorem dX17_isWhole_34 : decode cX17_isWhole 34 = .ok (.getfield 15, 3) := by decide +kernel
theorem dX17_isWhole_37 : decode cX17_isWhole 37 = .ok (.iconst (-1), 1) := by decide +kernel
theorem dX17_isWhole_38 : decode cX17_isWhole 38 = .ok (.if_icmp .eq 7, 3) := by decide +kernel
theorem dX17_isWhole_41 : decode cX17_isWhole 41 = .ok (.iconst 1, 1) := by decide +kernel
theorem dX17_isWhole_42 : decode cX17_isWhole 42 = .ok (.goto 4, 3) := by decide +kernel
theorem dX17_isWhole_45 : decode cX17_isWhole 45 = .ok (.iconst 0, 1) := by decide +kernel
theorem dX17_isWhole_46 : decode cX17_isWhole 46 = .ok (.ireturn, 1) := by decide +kernel
theorem dX18_init_0 : decode cX18_init 0 = .ok (.aload_n 0, 1) := by decide +kernel
theorem dX18_init_1 : decode cX18_init 1 = .ok (.invokespecial 3, 3) := by decide +kernel
theorem dX18_init_4 : decode cX18_init 4 = .ok (.aload_n 0, 1) := by decide +kernel
theorem dX18_init_5 : decode cX18_init 5 = .ok (.bipush 10, 2) := by decide +kernel
theorem dX18_init_7 : decode cX18_init 7 = .ok (.putfield 9, 3) := by decide +kernel
theorem dX18_init_10 : decode cX18_init 10 = .ok (.aload_n 0, 1) := by decide +kernel
theorem dX18_init_11 : decode cX18_init 11 = .ok (.iconst 1, 1) := by decide +kernel
theorem dX18_init_12 : decode cX18_init 12 = .ok (.putfield 15, 3) := by decide +kernel
theorem dX18_init_15 : decode cX18_init 15 = .ok (.aload_n 0, 1) := by decide +kernel
theorem dX18_init_16 : decode cX18_init 16 = .ok (.bipush 8, 2) := by decide +kernel
theorem dX18_init_18 : decode cX18_init 18 = .ok (.newarray .int, 2) := by decide +kernel
theorem dX18_init_20 : decode cX18_init 20 = .ok (.putfield 19, 3) := by decide +kernel
theorem dX18_init_23 : decode cX18_init 23 = .ok (.aload_n 0, 1) := by decide +kernel
theorem dX18_init_24 : decode cX18_init 24 = .ok (.bipush 8, 2) := by decide +kernel
theorem dX18_init_26 : decode cX18_init 26 = .ok (.newarray .int, 2) := by decide +kernel
theorem dX18_init_28 : decode cX18_init 28 = .ok (.putfield 23, 3) := by decide +kernel
theorem dX18_init_31 : decode cX18_init 31 = .ok (.aload_n 0, 1) := by decide +kernel
theorem dX18_init_32 : decode cX18_init 32 = .ok (.bipush 8, 2) := by decide +kernel
theorem dX18_init_34 : decode cX18_init 34 = .ok (.newarray .int, 2) := by decide +kernel
theorem dX18_init_36 : decode cX18_init 36 = .ok (.putfield 26, 3) := by decide +kernel
theorem dX18_init_39 : decode cX18_init 39 = .ok (.aload_n 0, 1) := by decide +kernel
theorem dX18_init_40 : decode cX18_init 40 = .ok (.bipush 17, 2) := by decide +kernel
theorem dX18_init_42 : decode cX18_init 42 = .ok (.newarray .int, 2) := by decide +kernel
theorem dX18_init_44 : decode cX18_init 44 = .ok (.putfield 29, 3) := by decide +kernel
theorem dX18_init_47 : decode cX18_init 47 = .ok (.aload_n 0, 1) := by decide +kernel
theorem dX18_init_48 : decode cX18_init 48 = .ok (.bipush 17, 2) := by decide +kernel
theorem dX18_init_50 : decode cX18_init 50 = .ok (.newarray .int, 2) := by decide +kernel
theorem dX18_init_52 : decode cX18_init 52 = .ok (.putfield 32, 3) := by decide +kernel
theorem dX18_init_55 : decode cX18_init 55 = .ok (.return_, 1) := by decide +kernel
theorem dX18_address_0 : decode cX18_address 0 = .ok (.ldc 35, 2) := by decide +kernel
theorem dX18_address_2 : decode cX18_address 2 = .ok (.aload_n 0, 1) := by decide +kernel
theorem dX18_address_3 : decode cX18_address 3 = .ok (.getfield 36, 3) := by decide +kernel
theorem dX18_address_6 : decode cX18_address 6 = .ok (.getfield 40, 3) := by decide +kernel
theorem dX18_address_9 : decode cX18_address 9 = .ok (.bipush 16, 2) := by decide +kernel
theorem dX18_address_11 : decode cX18_address 11 = .ok (.ishl, 1) := by decide +kernel
theorem dX18_address_12 : decode cX18_address 12 = .ok (.iadd, 1) := by decide +kernel
theorem dX18_address_13 : decode cX18_address 13 = .ok (.aload_n 0, 1) := by decide +kernel
theorem dX18_address_14 : decode cX18_address 14 = .ok (.getfield 45, 3) := by decide +kernel
theorem dX18_address_17 : decode cX18_address 17 = .ok (.iadd, 1) := by decide +kernel
theorem dX18_address_18 : decode cX18_address 18 = .ok (.iconst 1, 1) := by decide +kernel
theorem dX18_address_19 : decode cX18_address 19 = .ok (.iadd, 1) := by decide +kernel
theorem dX18_address_20 : decode cX18_address 20 = .ok (.ireturn, 1) := by decide +kernel
theorem dX18_askingOf_0 : decode cX18_askingOf 0 = .ok (.iconst 0, 1) := by decide +kernel
theorem dX18_askingOf_1 : decode cX18_askingOf 1 = .ok (.istore_n 2, 1) := by decide +kernel
theorem dX18_askingOf_2 : decode cX18_askingOf 2 = .ok (.iload_n 2, 1) := by decide +kernel
theorem dX18_askingOf_3 : decode cX18_askingOf 3 = .ok (.aload_n 0, 1) := by decide +kernel
theorem dX18_askingOf_4 : decode cX18_askingOf 4 = .ok (.getfield 48, 3) := by decide +kernel
theorem dX18_askingOf_7 : decode cX18_askingOf 7 = .ok (.if_icmp .ge 21, 3) := by decide +kernel
theorem dX18_askingOf_10 : decode cX18_askingOf 10 = .ok (.aload_n 0, 1) := by decide +kernel
theorem dX18_askingOf_11 : decode cX18_askingOf 11 = .ok (.getfield 23, 3) := by decide +kernel
theorem dX18_askingOf_14 : decode cX18_askingOf 14 = .ok (.iload_n 2, 1) := by decide +kernel
theorem dX18_askingOf_15 : decode cX18_askingOf 15 = .ok (.iaload, 1) := by decide +kernel
theorem dX18_askingOf_16 : decode cX18_askingOf 16 = .ok (.iload_n 1, 1) := by decide +kernel
theorem dX18_askingOf_17 : decode cX18_askingOf 17 = .ok (.if_icmp .ne 5, 3) := by decide +kernel
theorem dX18_askingOf_20 : decode cX18_askingOf 20 = .ok (.iload_n 2, 1) := by decide +kernel
theorem dX18_askingOf_21 : decode cX18_askingOf 21 = .ok (.ireturn, 1) := by decide +kernel
theorem dX18_askingOf_22 : decode cX18_askingOf 22 = .ok (.iinc 2 1, 3) := by decide +kernel
theorem dX18_askingOf_25 : decode cX18_askingOf 25 = .ok (.goto (-23), 3) := by decide +kernel
theorem dX18_askingOf_28 : decode cX18_askingOf 28 = .ok (.iconst (-1), 1) := by decide +kernel
theorem dX18_askingOf_29 : decode cX18_askingOf 29 = .ok (.ireturn, 1) := by decide +kernel
theorem dX18_someWaitFor_0 : decode cX18_someWaitFor 0 = .ok (.iconst 0, 1) := by decide +kernel
theorem dX18_someWaitFor_1 : decode cX18_someWaitFor 1 = .ok (.istore_n 2, 1) := by decide +kernel
theorem dX18_someWaitFor_2 : decode cX18_someWaitFor 2 = .ok (.iload_n 2, 1) := by decide +kernel
theorem dX18_someWaitFor_3 : decode cX18_someWaitFor 3 = .ok (.aload_n 0, 1) := by decide +kernel
theorem dX18_someWaitFor_4 : decode cX18_someWaitFor 4 = .ok (.getfield 51, 3) := by decide +kernel
theorem dX18_someWaitFor_7 : decode cX18_someWaitFor 7 = .ok (.if_icmp .ge 21, 3) := by decide +kernel
theorem dX18_someWaitFor_10 : decode cX18_someWaitFor 10 = .ok (.aload_n 0, 1) := by decide +kernel
theorem dX18_someWaitFor_11 : decode cX18_someWaitFor 11 = .ok (.getfield 32, 3) := by decide +kernel
theorem dX18_someWaitFor_14 : decode cX18_someWaitFor 14 = .ok (.iload_n 2, 1) := by decide +kernel
theorem dX18_someWaitFor_15 : decode cX18_someWaitFor 15 = .ok (.iaload, 1) := by decide +kernel
theorem dX18_someWaitFor_16 : decode cX18_someWaitFor 16 = .ok (.iload_n 1, 1) := by decide +kernel
theorem dX18_someWaitFor_17 : decode cX18_someWaitFor 17 = .ok (.if_icmp .ne 5, 3) := by decide +kernel
theorem dX18_someWaitFor_20 : decode cX18_someWaitFor 20 = .ok (.iconst 1, 1) := by decide +kernel
theorem dX18_someWaitFor_21 : decode cX18_someWaitFor 21 = .ok (.ireturn, 1) := by decide +kernel
theorem dX18_someWaitFor_22 : decode cX18_someWaitFor 22 = .ok (.iinc 2 1, 3) := by decide +kernel
theorem dX18_someWaitFor_25 : decode cX18_someWaitFor 25 = .ok (.goto (-23), 3) := by decide +kernel
theorem dX18_someWaitFor_28 : decode cX18_someWaitFor 28 = .ok (.iconst 0, 1) := by decide +kernel
theorem dX18_someWaitFor_29 : decode cX18_someWaitFor 29 = .ok (.ireturn, 1) := by decide +kernel
theorem dX18_endAsking_0 : decode cX18_endAsking 0 = .ok (.aload_n 0, 1) := by decide +kernel
theorem dX18_endAsking_1 : decode cX18_endAsking 1 = .ok (.dup, 1) := by decide +kernel
theorem dX18_endAsking_2 : decode cX18_endAsking 2 = .ok (.getfield 48, 3) := by decide +kernel
theorem dX18_endAsking_5 : decode cX18_endAsking 5 = .ok (.iconst 1, 1) := by decide +kernel
theorem dX18_endAsking_6 : decode cX18_endAsking 6 = .ok (.isub, 1) := by decide +kernel
theorem dX18_endAsking_7 : decode cX18_endAsking 7 = .ok (.putfield 48, 3) := by decide +kernel
theorem dX18_endAsking_10 : decode cX18_endAsking 10 = .ok (.iload_n 1, 1) := by decide +kernel
theorem dX18_endAsking_11 : decode cX18_endAsking 11 = .ok (.istore_n 2, 1) := by decide +kernel
theorem dX18_endAsking_12 : decode cX18_endAsking 12 = .ok (.iload_n 2, 1) := by decide +kernel
theorem dX18_endAsking_13 : decode cX18_endAsking 13 = .ok (.aload_n 0, 1) := by decide +kernel
theorem dX18_endAsking_14 : decode cX18_endAsking 14 = .ok (.getfield 48, 3) := by decide +kernel
theorem dX18_endAsking_17 : decode cX18_endAsking 17 = .ok (.if_icmp .ge 37, 3) := by decide +kernel
theorem dX18_endAsking_20 : decode cX18_endAsking 20 = .ok (.aload_n 0, 1) := by decide +kernel
theorem dX18_endAsking_21 : decode cX18_endAsking 21 = .ok (.getfield 23, 3) := by decide +kernel
theorem dX18_endAsking_24 : decode cX18_endAsking 24 = .ok (.iload_n 2, 1) := by decide +kernel
theorem dX18_endAsking_25 : decode cX18_endAsking 25 = .ok (.aload_n 0, 1) := by decide +kernel
theorem dX18_endAsking_26 : decode cX18_endAsking 26 = .ok (.getfield 23, 3) := by decide +kernel
theorem dX18_endAsking_29 : decode cX18_endAsking 29 = .ok (.iload_n 2, 1) := by decide +kernel
theorem dX18_endAsking_30 : decode cX18_endAsking 30 = .ok (.iconst 1, 1) := by decide +kernel
theorem dX18_endAsking_31 : decode cX18_endAsking 31 = .ok (.iadd, 1) := by decide +kernel
theorem dX18_endAsking_32 : decode cX18_endAsking 32 = .ok (.iaload, 1) := by decide +kernel
theorem dX18_endAsking_33 : decode cX18_endAsking 33 = .ok (.iastore, 1) := by decide +kernel
theorem dX18_endAsking_34 : decode cX18_endAsking 34 = .ok (.aload_n 0, 1) := by decide +kernel
theorem dX18_endAsking_35 : decode cX18_endAsking 35 = .ok (.getfield 26, 3) := by decide +kernel
theorem dX18_endAsking_38 : decode cX18_endAsking 38 = .ok (.iload_n 2, 1) := by decide +kernel
theorem dX18_endAsking_39 : decode cX18_endAsking 39 = .ok (.aload_n 0, 1) := by decide +kernel
theorem dX18_endAsking_40 : decode cX18_endAsking 40 = .ok (.getfield 26, 3) := by decide +kernel
theorem dX18_endAsking_43 : decode cX18_endAsking 43 = .ok (.iload_n 2, 1) := by decide +kernel
theorem dX18_endAsking_44 : decode cX18_endAsking 44 = .ok (.iconst 1, 1) := by decide +kernel
theorem dX18_endAsking_45 : decode cX18_endAsking 45 = .ok (.iadd, 1) := by decide +kernel
theorem dX18_endAsking_46 : decode cX18_endAsking 46 = .ok (.iaload, 1) := by decide +kernel
theorem dX18_endAsking_47 : decode cX18_endAsking 47 = .ok (.iastore, 1) := by decide +kernel
theorem dX18_endAsking_48 : decode cX18_endAsking 48 = .ok (.iinc 2 1, 3) := by decide +kernel
theorem dX18_endAsking_51 : decode cX18_endAsking 51 = .ok (.goto (-39), 3) := by decide +kernel
theorem dX18_endAsking_54 : decode cX18_endAsking 54 = .ok (.return_, 1) := by decide +kernel
theorem dX18_takeWaiting_0 : decode cX18_takeWaiting 0 = .ok (.aload_n 0, 1) := by decide +kernel
theorem dX18_takeWaiting_1 : decode cX18_takeWaiting 1 = .ok (.getfield 29, 3) := by decide +kernel
theorem dX18_takeWaiting_4 : decode cX18_takeWaiting 4 = .ok (.iload_n 1, 1) := by decide +kernel
theorem dX18_takeWaiting_5 : decode cX18_takeWaiting 5 = .ok (.iaload, 1) := by decide +kernel
theorem dX18_takeWaiting_6 : decode cX18_takeWaiting 6 = .ok (.istore_n 2, 1) := by decide +kernel
theorem dX18_takeWaiting_7 : decode cX18_takeWaiting 7 = .ok (.aload_n 0, 1) := by decide +kernel
theorem dX18_takeWaiting_8 : decode cX18_takeWaiting 8 = .ok (.dup, 1) := by decide +kernel
theorem dX18_takeWaiting_9 : decode cX18_takeWaiting 9 = .ok (.getfield 51, 3) := by decide +kernel
theorem dX18_takeWaiting_12 : decode cX18_takeWaiting 12 = .ok (.iconst 1, 1) := by decide +kernel
theorem dX18_takeWaiting_13 : decode cX18_takeWaiting 13 = .ok (.isub, 1) := by decide +kernel
theorem dX18_takeWaiting_14 : decode cX18_takeWaiting 14 = .ok (.putfield 51, 3) := by decide +kernel
theorem dX18_takeWaiting_17 : decode cX18_takeWaiting 17 = .ok (.iload_n 1, 1) := by decide +kernel
theorem dX18_takeWaiting_18 : decode cX18_takeWaiting 18 = .ok (.istore_n 3, 1) := by decide +kernel
theorem dX18_takeWaiting_19 : decode cX18_takeWaiting 19 = .ok (.iload_n 3, 1) := by decide +kernel
theorem dX18_takeWaiting_20 : decode cX18_takeWaiting 20 = .ok (.aload_n 0, 1) := by decide +kernel
theorem dX18_takeWaiting_21 : decode cX18_takeWaiting 21 = .ok (.getfield 51, 3) := by decide +kernel
theorem dX18_takeWaiting_24 : decode cX18_takeWaiting 24 = .ok (.if_icmp .ge 37, 3) := by decide +kernel
theorem dX18_takeWaiting_27 : decode cX18_takeWaiting 27 = .ok (.aload_n 0, 1) := by decide +kernel
theorem dX18_takeWaiting_28 : decode cX18_takeWaiting 28 = .ok (.getfield 29, 3) := by decide +kernel
theorem dX18_takeWaiting_31 : decode cX18_takeWaiting 31 = .ok (.iload_n 3, 1) := by decide +kernel
theorem dX18_takeWaiting_32 : decode cX18_takeWaiting 32 = .ok (.aload_n 0, 1) := by decide +kernel
theorem dX18_takeWaiting_33 : decode cX18_takeWaiting 33 = .ok (.getfield 29, 3) := by decide +kernel
theorem dX18_takeWaiting_36 : decode cX18_takeWaiting 36 = .ok (.iload_n 3, 1) := by decide +kernel
theorem dX18_takeWaiting_37 : decode cX18_takeWaiting 37 = .ok (.iconst 1, 1) := by decide +kernel
theorem dX18_takeWaiting_38 : decode cX18_takeWaiting 38 = .ok (.iadd, 1) := by decide +kernel
theorem dX18_takeWaiting_39 : decode cX18_takeWaiting 39 = .ok (.iaload, 1) := by decide +kernel
theorem dX18_takeWaiting_40 : decode cX18_takeWaiting 40 = .ok (.iastore, 1) := by decide +kernel
theorem dX18_takeWaiting_41 : decode cX18_takeWaiting 41 = .ok (.aload_n 0, 1) := by decide +kernel
theorem dX18_takeWaiting_42 : decode cX18_takeWaiting 42 = .ok (.getfield 32, 3) := by decide +kernel
theorem dX18_takeWaiting_45 : decode cX18_takeWaiting 45 = .ok (.iload_n 3, 1) := by decide +kernel
theorem dX18_takeWaiting_46 : decode cX18_takeWaiting 46 = .ok (.aload_n 0, 1) := by decide +kernel
theorem dX18_takeWaiting_47 : decode cX18_takeWaiting 47 = .ok (.getfield 32, 3) := by decide +kernel
theorem dX18_takeWaiting_50 : decode cX18_takeWaiting 50 = .ok (.iload_n 3, 1) := by decide +kernel
theorem dX18_takeWaiting_51 : decode cX18_takeWaiting 51 = .ok (.iconst 1, 1) := by decide +kernel
theorem dX18_takeWaiting_52 : decode cX18_takeWaiting 52 = .ok (.iadd, 1) := by decide +kernel
theorem dX18_takeWaiting_53 : decode cX18_takeWaiting 53 = .ok (.iaload, 1) := by decide +kernel
theorem dX18_takeWaiting_54 : decode cX18_takeWaiting 54 = .ok (.iastore, 1) := by decide +kernel
theorem dX18_takeWaiting_55 : decode cX18_takeWaiting 55 = .ok (.iinc 3 1, 3) := by decide +kernel
theorem dX18_takeWaiting_58 : decode cX18_takeWaiting 58 = .ok (.goto (-39), 3) := by decide +kernel
theorem dX18_takeWaiting_61 : decode cX18_takeWaiting 61 = .ok (.iload_n 2, 1) := by decide +kernel
theorem dX18_takeWaiting_62 : decode cX18_takeWaiting 62 = .ok (.ireturn, 1) := by decide +kernel
theorem dX19_of_0 : decode cX19_of 0 = .ok (.aload_n 0, 1) := by decide +kernel
theorem dX19_of_1 : decode cX19_of 1 = .ok (.getfield 1, 3) := by decide +kernel
theorem dX19_of_4 : decode cX19_of 4 = .ok (.bipush 18, 2) := by decide +kernel
theorem dX19_of_6 : decode cX19_of 6 = .ok (.iload_n 1, 1) := by decide +kernel
theorem dX19_of_7 : decode cX19_of 7 = .ok (.imul, 1) := by decide +kernel
theorem dX19_of_8 : decode cX19_of 8 = .ok (.iload_n 2, 1) := by decide +kernel
theorem dX19_of_9 : decode cX19_of 9 = .ok (.iadd, 1) := by decide +kernel
theorem dX19_of_10 : decode cX19_of 10 = .ok (.iaload, 1) := by decide +kernel
theorem dX19_of_11 : decode cX19_of 11 = .ok (.ireturn, 1) := by decide +kernel
theorem dX19_set_0 : decode cX19_set 0 = .ok (.aload_n 0, 1) := by decide +kernel
theorem dX19_set_1 : decode cX19_set 1 = .ok (.getfield 1, 3) := by decide +kernel
theorem dX19_set_4 : decode cX19_set 4 = .ok (.bipush 18, 2) := by decide +kernel
theorem dX19_set_6 : decode cX19_set 6 = .ok (.iload_n 1, 1) := by decide +kernel
theorem dX19_set_7 : decode cX19_set 7 = .ok (.imul, 1) := by decide +kernel
theorem dX19_set_8 : decode cX19_set 8 = .ok (.iload_n 2, 1) := by decide +kernel
theorem dX19_set_9 : decode cX19_set 9 = .ok (.iadd, 1) := by decide +kernel
theorem dX19_set_10 : decode cX19_set 10 = .ok (.iload_n 3, 1) := by decide +kernel
theorem dX19_set_11 : decode cX19_set 11 = .ok (.iastore, 1) := by decide +kernel
theorem dX19_set_12 : decode cX19_set 12 = .ok (.return_, 1) := by decide +kernel
theorem dX19_newDatagram_0 : decode cX19_newDatagram 0 = .ok (.aload_n 0, 1) := by decide +kernel
theorem dX19_newDatagram_1 : decode cX19_newDatagram 1 = .ok (.dup, 1) := by decide +kernel
theorem dX19_newDatagram_2 : decode cX19_newDatagram 2 = .ok (.getfield 7, 3) := by decide +kernel
theorem dX19_newDatagram_5 : decode cX19_newDatagram 5 = .ok (.iconst 1, 1) := by decide +kernel
theorem dX19_newDatagram_6 : decode cX19_newDatagram 6 = .ok (.isub, 1) := by decide +kernel
theorem dX19_newDatagram_7 : decode cX19_newDatagram 7 = .ok (.putfield 7, 3) := by decide +kernel
theorem dX19_newDatagram_10 : decode cX19_newDatagram 10 = .ok (.aload_n 0, 1) := by decide +kernel
theorem dX19_newDatagram_11 : decode cX19_newDatagram 11 = .ok (.getfield 11, 3) := by decide +kernel
theorem dX19_newDatagram_14 : decode cX19_newDatagram 14 = .ok (.aload_n 0, 1) := by decide +kernel
theorem dX19_newDatagram_15 : decode cX19_newDatagram 15 = .ok (.getfield 7, 3) := by decide +kernel
theorem dX19_newDatagram_18 : decode cX19_newDatagram 18 = .ok (.iaload, 1) := by decide +kernel
theorem dX19_newDatagram_19 : decode cX19_newDatagram 19 = .ok (.istore_n 1, 1) := by decide +kernel
theorem dX19_newDatagram_20 : decode cX19_newDatagram 20 = .ok (.iconst 0, 1) := by decide +kernel
theorem dX19_newDatagram_21 : decode cX19_newDatagram 21 = .ok (.istore_n 2, 1) := by decide +kernel
theorem dX19_newDatagram_22 : decode cX19_newDatagram 22 = .ok (.iload_n 2, 1) := by decide +kernel
theorem dX19_newDatagram_23 : decode cX19_newDatagram 23 = .ok (.bipush 18, 2) := by decide +kernel
theorem dX19_newDatagram_25 : decode cX19_newDatagram 25 = .ok (.if_icmp .ge 21, 3) := by decide +kernel
theorem dX19_newDatagram_28 : decode cX19_newDatagram 28 = .ok (.aload_n 0, 1) := by decide +kernel
theorem dX19_newDatagram_29 : decode cX19_newDatagram 29 = .ok (.getfield 1, 3) := by decide +kernel
theorem dX19_newDatagram_32 : decode cX19_newDatagram 32 = .ok (.bipush 18, 2) := by decide +kernel
theorem dX19_newDatagram_34 : decode cX19_newDatagram 34 = .ok (.iload_n 1, 1) := by decide +kernel
theorem dX19_newDatagram_35 : decode cX19_newDatagram 35 = .ok (.imul, 1) := by decide +kernel
theorem dX19_newDatagram_36 : decode cX19_newDatagram 36 = .ok (.iload_n 2, 1) := by decide +kernel
theorem dX19_newDatagram_37 : decode cX19_newDatagram 37 = .ok (.iadd, 1) := by decide +kernel
theorem dX19_newDatagram_38 : decode cX19_newDatagram 38 = .ok (.iconst 0, 1) := by decide +kernel
theorem dX19_newDatagram_39 : decode cX19_newDatagram 39 = .ok (.iastore, 1) := by decide +kernel
theorem dX19_newDatagram_40 : decode cX19_newDatagram 40 = .ok (.iinc 2 1, 3) := by decide +kernel
theorem dX19_newDatagram_43 : decode cX19_newDatagram 43 = .ok (.goto (-21), 3) := by decide +kernel
theorem dX19_newDatagram_46 : decode cX19_newDatagram 46 = .ok (.aload_n 0, 1) := by decide +kernel
theorem dX19_newDatagram_47 : decode cX19_newDatagram 47 = .ok (.iload_n 1, 1) := by decide +kernel
theorem dX19_newDatagram_48 : decode cX19_newDatagram 48 = .ok (.bipush 10, 2) := by decide +kernel
theorem dX19_newDatagram_50 : decode cX19_newDatagram 50 = .ok (.iconst (-1), 1) := by decide +kernel
theorem dX19_newDatagram_51 : decode cX19_newDatagram 51 = .ok (.invokevirtual 14, 3) := by decide +kernel
theorem dX19_newDatagram_54 : decode cX19_newDatagram 54 = .ok (.aload_n 0, 1) := by decide +kernel
theorem dX19_newDatagram_55 : decode cX19_newDatagram 55 = .ok (.iload_n 1, 1) := by decide +kernel
theorem dX19_newDatagram_56 : decode cX19_newDatagram 56 = .ok (.bipush 11, 2) := by decide +kernel
theorem dX19_newDatagram_58 : decode cX19_newDatagram 58 = .ok (.iconst (-1), 1) := by decide +kernel
theorem dX19_newDatagram_59 : decode cX19_newDatagram 59 = .ok (.invokevirtual 14, 3) := by decide +kernel
theorem dX19_newDatagram_62 : decode cX19_newDatagram 62 = .ok (.iload_n 1, 1) := by decide +kernel
theorem dX19_newDatagram_63 : decode cX19_newDatagram 63 = .ok (.ireturn, 1) := by decide +kernel
theorem dX19_copyOf_0 : decode cX19_copyOf 0 = .ok (.aload_n 0, 1) := by decide +kernel
theorem dX19_copyOf_1 : decode cX19_copyOf 1 = .ok (.dup, 1) := by decide +kernel
theorem dX19_copyOf_2 : decode cX19_copyOf 2 = .ok (.getfield 7, 3) := by decide +kernel
theorem dX19_copyOf_5 : decode cX19_copyOf 5 = .ok (.iconst 1, 1) := by decide +kernel
theorem dX19_copyOf_6 : decode cX19_copyOf 6 = .ok (.isub, 1) := by decide +kernel
theorem dX19_copyOf_7 : decode cX19_copyOf 7 = .ok (.putfield 7, 3) := by decide +kernel
theorem dX19_copyOf_10 : decode cX19_copyOf 10 = .ok (.aload_n 0, 1) := by decide +kernel
theorem dX19_copyOf_11 : decode cX19_copyOf 11 = .ok (.getfield 11, 3) := by decide +kernel
theorem dX19_copyOf_14 : decode cX19_copyOf 14 = .ok (.aload_n 0, 1) := by decide +kernel
theorem dX19_copyOf_15 : decode cX19_copyOf 15 = .ok (.getfield 7, 3) := by decide +kernel
theorem dX19_copyOf_18 : decode cX19_copyOf 18 = .ok (.iaload, 1) := by decide +kernel
theorem dX19_copyOf_19 : decode cX19_copyOf 19 = .ok (.istore_n 2, 1) := by decide +kernel
theorem dX19_copyOf_20 : decode cX19_copyOf 20 = .ok (.iconst 0, 1) := by decide +kernel
theorem dX19_copyOf_21 : decode cX19_copyOf 21 = .ok (.istore_n 3, 1) := by decide +kernel
theorem dX19_copyOf_22 : decode cX19_copyOf 22 = .ok (.iload_n 3, 1) := by decide +kernel
theorem dX19_copyOf_23 : decode cX19_copyOf 23 = .ok (.bipush 18, 2) := by decide +kernel
theorem dX19_copyOf_25 : decode cX19_copyOf 25 = .ok (.if_icmp .ge 31, 3) := by decide +kernel
theorem dX19_copyOf_28 : decode cX19_copyOf 28 = .ok (.aload_n 0, 1) := by decide +kernel
theorem dX19_copyOf_29 : decode cX19_copyOf 29 = .ok (.getfield 1, 3) := by decide +kernel
theorem dX19_copyOf_32 : decode cX19_copyOf 32 = .ok (.bipush 18, 2) := by decide +kernel
theorem dX19_copyOf_34 : decode cX19_copyOf 34 = .ok (.iload_n 2, 1) := by decide +kernel
theorem dX19_copyOf_35 : decode cX19_copyOf 35 = .ok (.imul, 1) := by decide +kernel
theorem dX19_copyOf_36 : decode cX19_copyOf 36 = .ok (.iload_n 3, 1) := by decide +kernel
theorem dX19_copyOf_37 : decode cX19_copyOf 37 = .ok (.iadd, 1) := by decide +kernel
theorem dX19_copyOf_38 : decode cX19_copyOf 38 = .ok (.aload_n 0, 1) := by decide +kernel
theorem dX19_copyOf_39 : decode cX19_copyOf 39 = .ok (.getfield 1, 3) := by decide +kernel
theorem dX19_copyOf_42 : decode cX19_copyOf 42 = .ok (.bipush 18, 2) := by decide +kernel
theorem dX19_copyOf_44 : decode cX19_copyOf 44 = .ok (.iload_n 1, 1) := by decide +kernel
theorem dX19_copyOf_45 : decode cX19_copyOf 45 = .ok (.imul, 1) := by decide +kernel
theorem dX19_copyOf_46 : decode cX19_copyOf 46 = .ok (.iload_n 3, 1) := by decide +kernel
theorem dX19_copyOf_47 : decode cX19_copyOf 47 = .ok (.iadd, 1) := by decide +kernel
theorem dX19_copyOf_48 : decode cX19_copyOf 48 = .ok (.iaload, 1) := by decide +kernel
theorem dX19_copyOf_49 : decode cX19_copyOf 49 = .ok (.iastore, 1) := by decide +kernel
theorem dX19_copyOf_50 : decode cX19_copyOf 50 = .ok (.iinc 3 1, 3) := by decide +kernel
theorem dX19_copyOf_53 : decode cX19_copyOf 53 = .ok (.goto (-31), 3) := by decide +kernel
theorem dX19_copyOf_56 : decode cX19_copyOf 56 = .ok (.aload_n 0, 1) := by decide +kernel
theorem dX19_copyOf_57 : decode cX19_copyOf 57 = .ok (.iload_n 2, 1) := by decide +kernel
theorem dX19_copyOf_58 : decode cX19_copyOf 58 = .ok (.bipush 10, 2) := by decide +kernel
theorem dX19_copyOf_60 : decode cX19_copyOf 60 = .ok (.invokevirtual 18, 3) := by decide +kernel
theorem dX19_copyOf_63 : decode cX19_copyOf 63 = .ok (.iconst (-1), 1) := by decide +kernel
theorem dX19_copyOf_64 : decode cX19_copyOf 64 = .ok (.if_icmp .eq 19, 3) := by decide +kernel
theorem dX19_copyOf_67 : decode cX19_copyOf 67 = .ok (.aload_n 0, 1) := by decide +kernel
theorem dX19_copyOf_68 : decode cX19_copyOf 68 = .ok (.getfield 22, 3) := by decide +kernel
theorem dX19_copyOf_71 : decode cX19_copyOf 71 = .ok (.aload_n 0, 1) := by decide +kernel
theorem dX19_copyOf_72 : decode cX19_copyOf 72 = .ok (.iload_n 2, 1) := by decide +kernel
theorem dX19_copyOf_73 : decode cX19_copyOf 73 = .ok (.bipush 10, 2) := by decide +kernel
theorem dX19_copyOf_75 : decode cX19_copyOf 75 = .ok (.invokevirtual 18, 3) := by decide +kernel
theorem dX19_copyOf_78 : decode cX19_copyOf 78 = .ok (.dup2, 1) := by decide +kernel
theorem dX19_copyOf_79 : decode cX19_copyOf 79 = .ok (.iaload, 1) := by decide +kernel
theorem dX19_copyOf_80 : decode cX19_copyOf 80 = .ok (.iconst 1, 1) := by decide +kernel
theorem dX19_copyOf_81 : decode cX19_copyOf 81 = .ok (.iadd, 1) := by decide +kernel
theorem dX19_copyOf_82 : decode cX19_copyOf 82 = .ok (.iastore, 1) := by decide +kernel
theorem dX19_copyOf_83 : decode cX19_copyOf 83 = .ok (.aload_n 0, 1) := by decide +kernel
theorem dX19_copyOf_84 : decode cX19_copyOf 84 = .ok (.iload_n 2, 1) := by decide +kernel
theorem dX19_copyOf_85 : decode cX19_copyOf 85 = .ok (.bipush 11, 2) := by decide +kernel
theorem dX19_copyOf_87 : decode cX19_copyOf 87 = .ok (.invokevirtual 18, 3) := by decide +kernel
theorem dX19_copyOf_90 : decode cX19_copyOf 90 = .ok (.iconst (-1), 1) := by decide +kernel
theorem dX19_copyOf_91 : decode cX19_copyOf 91 = .ok (.if_icmp .eq 19, 3) := by decide +kernel
theorem dX19_copyOf_94 : decode cX19_copyOf 94 = .ok (.aload_n 0, 1) := by decide +kernel
theorem dX19_copyOf_95 : decode cX19_copyOf 95 = .ok (.getfield 25, 3) := by decide +kernel
theorem dX19_copyOf_98 : decode cX19_copyOf 98 = .ok (.aload_n 0, 1) := by decide +kernel
theorem dX19_copyOf_99 : decode cX19_copyOf 99 = .ok (.iload_n 2, 1) := by decide +kernel
theorem dX19_copyOf_100 : decode cX19_copyOf 100 = .ok (.bipush 11, 2) := by decide +kernel
theorem dX19_copyOf_102 : decode cX19_copyOf 102 = .ok (.invokevirtual 18, 3) := by decide +kernel
theorem dX19_copyOf_105 : decode cX19_copyOf 105 = .ok (.dup2, 1) := by decide +kernel
theorem dX19_copyOf_106 : decode cX19_copyOf 106 = .ok (.iaload, 1) := by decide +kernel
theorem dX19_copyOf_107 : decode cX19_copyOf 107 = .ok (.iconst 1, 1) := by decide +kernel
theorem dX19_copyOf_108 : decode cX19_copyOf 108 = .ok (.iadd, 1) := by decide +kernel
theorem dX19_copyOf_109 : decode cX19_copyOf 109 = .ok (.iastore, 1) := by decide +kernel
theorem dX19_copyOf_110 : decode cX19_copyOf 110 = .ok (.iload_n 2, 1) := by decide +kernel
theorem dX19_copyOf_111 : decode cX19_copyOf 111 = .ok (.ireturn, 1) := by decide +kernel
theorem dX19_drop_0 : decode cX19_drop 0 = .ok (.aload_n 0, 1) := by decide +kernel
theorem dX19_drop_1 : decode cX19_drop 1 = .ok (.iload_n 1, 1) := by decide +kernel
theorem dX19_drop_2 : decode cX19_drop 2 = .ok (.bipush 10, 2) := by decide +kernel
theorem dX19_drop_4 : decode cX19_drop 4 = .ok (.invokevirtual 18, 3) := by decide +kernel
theorem dX19_drop_7 : decode cX19_drop 7 = .ok (.iconst (-1), 1) := by decide +kernel
theorem dX19_drop_8 : decode cX19_drop 8 = .ok (.if_icmp .eq 14, 3) := by decide +kernel
theorem dX19_drop_11 : decode cX19_drop 11 = .ok (.aload_n 0, 1) := by decide +kernel
theorem dX19_drop_12 : decode cX19_drop 12 = .ok (.aload_n 0, 1) := by decide +kernel
theorem dX19_drop_13 : decode cX19_drop 13 = .ok (.iload_n 1, 1) := by decide +kernel
theorem dX19_drop_14 : decode cX19_drop 14 = .ok (.bipush 10, 2) := by decide +kernel
theorem dX19_drop_16 : decode cX19_drop 16 = .ok (.invokevirtual 18, 3) := by decide +kernel
theorem dX19_drop_19 : decode cX19_drop 19 = .ok (.invokevirtual 28, 3) := by decide +kernel
theorem dX19_drop_22 : decode cX19_drop 22 = .ok (.aload_n 0, 1) := by decide +kernel
theorem dX19_drop_23 : decode cX19_drop 23 = .ok (.iload_n 1, 1) := by decide +kernel
theorem dX19_drop_24 : decode cX19_drop 24 = .ok (.bipush 11, 2) := by decide +kernel
theorem dX19_drop_26 : decode cX19_drop 26 = .ok (.invokevirtual 18, 3) := by decide +kernel
theorem dX19_drop_29 : decode cX19_drop 29 = .ok (.iconst (-1), 1) := by decide +kernel
theorem dX19_drop_30 : decode cX19_drop 30 = .ok (.if_icmp .eq 14, 3) := by decide +kernel
theorem dX19_drop_33 : decode cX19_drop 33 = .ok (.aload_n 0, 1) := by decide +kernel
theorem dX19_drop_34 : decode cX19_drop 34 = .ok (.aload_n 0, 1) := by decide +kernel
theorem dX19_drop_35 : decode cX19_drop 35 = .ok (.iload_n 1, 1) := by decide +kernel
theorem dX19_drop_36 : decode cX19_drop 36 = .ok (.bipush 11, 2) := by decide +kernel
theorem dX19_drop_38 : decode cX19_drop 38 = .ok (.invokevirtual 18, 3) := by decide +kernel
theorem dX19_drop_41 : decode cX19_drop 41 = .ok (.invokevirtual 32, 3) := by decide +kernel
theorem dX19_drop_44 : decode cX19_drop 44 = .ok (.aload_n 0, 1) := by decide +kernel
theorem dX19_drop_45 : decode cX19_drop 45 = .ok (.getfield 11, 3) := by decide +kernel
theorem dX19_drop_48 : decode cX19_drop 48 = .ok (.aload_n 0, 1) := by decide +kernel
theorem dX19_drop_49 : decode cX19_drop 49 = .ok (.getfield 7, 3) := by decide +kernel
theorem dX19_drop_52 : decode cX19_drop 52 = .ok (.iload_n 1, 1) := by decide +kernel
theorem dX19_drop_53 : decode cX19_drop 53 = .ok (.iastore, 1) := by decide +kernel
theorem dX19_drop_54 : decode cX19_drop 54 = .ok (.aload_n 0, 1) := by decide +kernel
theorem dX19_drop_55 : decode cX19_drop 55 = .ok (.dup, 1) := by decide +kernel
theorem dX19_drop_56 : decode cX19_drop 56 = .ok (.getfield 7, 3) := by decide +kernel
theorem dX19_drop_59 : decode cX19_drop 59 = .ok (.iconst 1, 1) := by decide +kernel
theorem dX19_drop_60 : decode cX19_drop 60 = .ok (.iadd, 1) := by decide +kernel
theorem dX19_drop_61 : decode cX19_drop 61 = .ok (.putfield 7, 3) := by decide +kernel
theorem dX19_drop_64 : decode cX19_drop 64 = .ok (.return_, 1) := by decide +kernel
theorem dX19_seg_0 : decode cX19_seg 0 = .ok (.aload_n 0, 1) := by decide +kernel
theorem dX19_seg_1 : decode cX19_seg 1 = .ok (.getfield 35, 3) := by decide +kernel
theorem dX19_seg_4 : decode cX19_seg 4 = .ok (.bipush 10, 2) := by decide +kernel
theorem dX19_seg_6 : decode cX19_seg 6 = .ok (.iload_n 1, 1) := by decide +kernel
theorem dX19_seg_7 : decode cX19_seg 7 = .ok (.imul, 1) := by decide +kernel
theorem dX19_seg_8 : decode cX19_seg 8 = .ok (.iload_n 2, 1) := by decide +kernel
theorem dX19_seg_9 : decode cX19_seg 9 = .ok (.iadd, 1) := by decide +kernel
theorem dX19_seg_10 : decode cX19_seg 10 = .ok (.iaload, 1) := by decide +kernel
theorem dX19_seg_11 : decode cX19_seg 11 = .ok (.ireturn, 1) := by decide +kernel
theorem dX19_setSeg_0 : decode cX19_setSeg 0 = .ok (.aload_n 0, 1) := by decide +kernel
theorem dX19_setSeg_1 : decode cX19_setSeg 1 = .ok (.getfield 35, 3) := by decide +kernel
theorem dX19_setSeg_4 : decode cX19_setSeg 4 = .ok (.bipush 10, 2) := by decide +kernel
theorem dX19_setSeg_6 : decode cX19_setSeg 6 = .ok (.iload_n 1, 1) := by decide +kernel
theorem dX19_setSeg_7 : decode cX19_setSeg 7 = .ok (.imul, 1) := by decide +kernel
theorem dX19_setSeg_8 : decode cX19_setSeg 8 = .ok (.iload_n 2, 1) := by decide +kernel
theorem dX19_setSeg_9 : decode cX19_setSeg 9 = .ok (.iadd, 1) := by decide +kernel
theorem dX19_setSeg_10 : decode cX19_setSeg 10 = .ok (.iload_n 3, 1) := by decide +kernel
theorem dX19_setSeg_11 : decode cX19_setSeg 11 = .ok (.iastore, 1) := by decide +kernel
theorem dX19_setSeg_12 : decode cX19_setSeg 12 = .ok (.return_, 1) := by decide +kernel
theorem dX19_newSegment_0 : decode cX19_newSegment 0 = .ok (.aload_n 0, 1) := by decide +kernel
theorem dX19_newSegment_1 : decode cX19_newSegment 1 = .ok (.dup, 1) := by decide +kernel
theorem dX19_newSegment_2 : decode cX19_newSegment 2 = .ok (.getfield 38, 3) := by decide +kernel
theorem dX19_newSegment_5 : decode cX19_newSegment 5 = .ok (.iconst 1, 1) := by decide +kernel
theorem dX19_newSegment_6 : decode cX19_newSegment 6 = .ok (.isub, 1) := by decide +kernel
theorem dX19_newSegment_7 : decode cX19_newSegment 7 = .ok (.putfield 38, 3) := by decide +kernel
theorem dX19_newSegment_10 : decode cX19_newSegment 10 = .ok (.aload_n 0, 1) := by decide +kernel
theorem dX19_newSegment_11 : decode cX19_newSegment 11 = .ok (.getfield 41, 3) := by decide +kernel
theorem dX19_newSegment_14 : decode cX19_newSegment 14 = .ok (.aload_n 0, 1) := by decide +kernel
theorem dX19_newSegment_15 : decode cX19_newSegment 15 = .ok (.getfield 38, 3) := by decide +kernel
theorem dX19_newSegment_18 : decode cX19_newSegment 18 = .ok (.iaload, 1) := by decide +kernel
theorem dX19_newSegment_19 : decode cX19_newSegment 19 = .ok (.istore_n 3, 1) := by decide +kernel
theorem dX19_newSegment_20 : decode cX19_newSegment 20 = .ok (.iconst 0, 1) := by decide +kernel
theorem dX19_newSegment_21 : decode cX19_newSegment 21 = .ok (.istore 4, 2) := by decide +kernel
theorem dX19_newSegment_23 : decode cX19_newSegment 23 = .ok (.iload 4, 2) := by decide +kernel
theorem dX19_newSegment_25 : decode cX19_newSegment 25 = .ok (.bipush 10, 2) := by decide +kernel
theorem dX19_newSegment_27 : decode cX19_newSegment 27 = .ok (.if_icmp .ge 22, 3) := by decide +kernel
theorem dX19_newSegment_30 : decode cX19_newSegment 30 = .ok (.aload_n 0, 1) := by decide +kernel
theorem dX19_newSegment_31 : decode cX19_newSegment 31 = .ok (.getfield 35, 3) := by decide +kernel
theorem dX19_newSegment_34 : decode cX19_newSegment 34 = .ok (.bipush 10, 2) := by decide +kernel
theorem dX19_newSegment_36 : decode cX19_newSegment 36 = .ok (.iload_n 3, 1) := by decide +kernel
theorem dX19_newSegment_37 : decode cX19_newSegment 37 = .ok (.imul, 1) := by decide +kernel
theorem dX19_newSegment_38 : decode cX19_newSegment 38 = .ok (.iload 4, 2) := by decide +kernel
theorem dX19_newSegment_40 : decode cX19_newSegment 40 = .ok (.iadd, 1) := by decide +kernel
theorem dX19_newSegment_41 : decode cX19_newSegment 41 = .ok (.iconst 0, 1) := by decide +kernel
theorem dX19_newSegment_42 : decode cX19_newSegment 42 = .ok (.iastore, 1) := by decide +kernel
theorem dX19_newSegment_43 : decode cX19_newSegment 43 = .ok (.iinc 4 1, 3) := by decide +kernel
theorem dX19_newSegment_46 : decode cX19_newSegment 46 = .ok (.goto (-23), 3) := by decide +kernel
theorem dX19_newSegment_49 : decode cX19_newSegment 49 = .ok (.aload_n 0, 1) := by decide +kernel
theorem dX19_newSegment_50 : decode cX19_newSegment 50 = .ok (.iload_n 3, 1) := by decide +kernel
theorem dX19_newSegment_51 : decode cX19_newSegment 51 = .ok (.iconst 2, 1) := by decide +kernel
theorem dX19_newSegment_52 : decode cX19_newSegment 52 = .ok (.iload_n 1, 1) := by decide +kernel
theorem dX19_newSegment_53 : decode cX19_newSegment 53 = .ok (.invokevirtual 44, 3) := by decide +kernel
theorem dX19_newSegment_56 : decode cX19_newSegment 56 = .ok (.aload_n 0, 1) := by decide +kernel
theorem dX19_newSegment_57 : decode cX19_newSegment 57 = .ok (.iload_n 3, 1) := by decide +kernel
theorem dX19_newSegment_58 : decode cX19_newSegment 58 = .ok (.iconst 3, 1) := by decide +kernel
theorem dX19_newSegment_59 : decode cX19_newSegment 59 = .ok (.iload_n 2, 1) := by decide +kernel
theorem dX19_newSegment_60 : decode cX19_newSegment 60 = .ok (.invokevirtual 44, 3) := by decide +kernel
theorem dX19_newSegment_63 : decode cX19_newSegment 63 = .ok (.aload_n 0, 1) := by decide +kernel
theorem dX19_newSegment_64 : decode cX19_newSegment 64 = .ok (.iload_n 3, 1) := by decide +kernel
theorem dX19_newSegment_65 : decode cX19_newSegment 65 = .ok (.bipush 8, 2) := by decide +kernel
theorem dX19_newSegment_67 : decode cX19_newSegment 67 = .ok (.iconst (-1), 1) := by decide +kernel
theorem dX19_newSegment_68 : decode cX19_newSegment 68 = .ok (.invokevirtual 44, 3) := by decide +kernel
theorem dX19_newSegment_71 : decode cX19_newSegment 71 = .ok (.aload_n 0, 1) := by decide +kernel
theorem dX19_newSegment_72 : decode cX19_newSegment 72 = .ok (.getfield 22, 3) := by decide +kernel
theorem dX19_newSegment_75 : decode cX19_newSegment 75 = .ok (.iload_n 3, 1) := by decide +kernel
theorem dX19_newSegment_76 : decode cX19_newSegment 76 = .ok (.iconst 1, 1) := by decide +kernel
theorem dX19_newSegment_77 : decode cX19_newSegment 77 = .ok (.iastore, 1) := by decide +kernel
theorem dX19_newSegment_78 : decode cX19_newSegment 78 = .ok (.iload_n 3, 1) := by decide +kernel
theorem dX19_newSegment_79 : decode cX19_newSegment 79 = .ok (.ireturn, 1) := by decide +kernel
