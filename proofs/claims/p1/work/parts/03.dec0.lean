theorem dX0_init_0 : decode cX0_init 0 = .ok (.aload_n 0, 1) := by decide +kernel
theorem dX0_init_1 : decode cX0_init 1 = .ok (.invokespecial 3, 3) := by decide +kernel
theorem dX0_init_4 : decode cX0_init 4 = .ok (.aload_n 0, 1) := by decide +kernel
theorem dX0_init_5 : decode cX0_init 5 = .ok (.bipush 16, 2) := by decide +kernel
theorem dX0_init_7 : decode cX0_init 7 = .ok (.newarray .int, 2) := by decide +kernel
theorem dX0_init_9 : decode cX0_init 9 = .ok (.putfield 9, 3) := by decide +kernel
theorem dX0_init_12 : decode cX0_init 12 = .ok (.aload_n 0, 1) := by decide +kernel
theorem dX0_init_13 : decode cX0_init 13 = .ok (.bipush 16, 2) := by decide +kernel
theorem dX0_init_15 : decode cX0_init 15 = .ok (.newarray .int, 2) := by decide +kernel
theorem dX0_init_17 : decode cX0_init 17 = .ok (.putfield 15, 3) := by decide +kernel
theorem dX0_init_20 : decode cX0_init 20 = .ok (.aload_n 0, 1) := by decide +kernel
theorem dX0_init_21 : decode cX0_init 21 = .ok (.bipush 16, 2) := by decide +kernel
theorem dX0_init_23 : decode cX0_init 23 = .ok (.newarray .int, 2) := by decide +kernel
theorem dX0_init_25 : decode cX0_init 25 = .ok (.putfield 18, 3) := by decide +kernel
theorem dX0_init_28 : decode cX0_init 28 = .ok (.aload_n 0, 1) := by decide +kernel
theorem dX0_init_29 : decode cX0_init 29 = .ok (.bipush 16, 2) := by decide +kernel
theorem dX0_init_31 : decode cX0_init 31 = .ok (.bipush 24, 2) := by decide +kernel
theorem dX0_init_33 : decode cX0_init 33 = .ok (.multianewarray 21 2, 4) := by decide +kernel
theorem dX0_init_37 : decode cX0_init 37 = .ok (.putfield 23, 3) := by decide +kernel
theorem dX0_init_40 : decode cX0_init 40 = .ok (.aload_n 0, 1) := by decide +kernel
theorem dX0_init_41 : decode cX0_init 41 = .ok (.bipush 24, 2) := by decide +kernel
theorem dX0_init_43 : decode cX0_init 43 = .ok (.newarray .int, 2) := by decide +kernel
theorem dX0_init_45 : decode cX0_init 45 = .ok (.putfield 26, 3) := by decide +kernel
theorem dX0_init_48 : decode cX0_init 48 = .ok (.aload_n 0, 1) := by decide +kernel
theorem dX0_init_49 : decode cX0_init 49 = .ok (.iconst 1, 1) := by decide +kernel
theorem dX0_init_50 : decode cX0_init 50 = .ok (.putfield 29, 3) := by decide +kernel
theorem dX0_init_53 : decode cX0_init 53 = .ok (.aload_n 0, 1) := by decide +kernel
theorem dX0_init_54 : decode cX0_init 54 = .ok (.bipush 24, 2) := by decide +kernel
theorem dX0_init_56 : decode cX0_init 56 = .ok (.newarray .int, 2) := by decide +kernel
theorem dX0_init_58 : decode cX0_init 58 = .ok (.putfield 33, 3) := by decide +kernel
theorem dX0_init_61 : decode cX0_init 61 = .ok (.aload_n 0, 1) := by decide +kernel
theorem dX0_init_62 : decode cX0_init 62 = .ok (.bipush 24, 2) := by decide +kernel
theorem dX0_init_64 : decode cX0_init 64 = .ok (.newarray .int, 2) := by decide +kernel
theorem dX0_init_66 : decode cX0_init 66 = .ok (.putfield 36, 3) := by decide +kernel
theorem dX0_init_69 : decode cX0_init 69 = .ok (.aload_n 0, 1) := by decide +kernel
theorem dX0_init_70 : decode cX0_init 70 = .ok (.bipush 24, 2) := by decide +kernel
theorem dX0_init_72 : decode cX0_init 72 = .ok (.newarray .int, 2) := by decide +kernel
theorem dX0_init_74 : decode cX0_init 74 = .ok (.putfield 39, 3) := by decide +kernel
theorem dX0_init_77 : decode cX0_init 77 = .ok (.aload_n 0, 1) := by decide +kernel
theorem dX0_init_78 : decode cX0_init 78 = .ok (.bipush 16, 2) := by decide +kernel
theorem dX0_init_80 : decode cX0_init 80 = .ok (.newarray .int, 2) := by decide +kernel
theorem dX0_init_82 : decode cX0_init 82 = .ok (.putfield 42, 3) := by decide +kernel
theorem dX0_init_85 : decode cX0_init 85 = .ok (.aload_n 0, 1) := by decide +kernel
theorem dX0_init_86 : decode cX0_init 86 = .ok (.bipush 16, 2) := by decide +kernel
theorem dX0_init_88 : decode cX0_init 88 = .ok (.newarray .boolean, 2) := by decide +kernel
theorem dX0_init_90 : decode cX0_init 90 = .ok (.putfield 45, 3) := by decide +kernel
theorem dX0_init_93 : decode cX0_init 93 = .ok (.aload_n 0, 1) := by decide +kernel
theorem dX0_init_94 : decode cX0_init 94 = .ok (.bipush 16, 2) := by decide +kernel
theorem dX0_init_96 : decode cX0_init 96 = .ok (.newarray .int, 2) := by decide +kernel
theorem dX0_init_98 : decode cX0_init 98 = .ok (.putfield 49, 3) := by decide +kernel
theorem dX0_init_101 : decode cX0_init 101 = .ok (.aload_n 0, 1) := by decide +kernel
theorem dX0_init_102 : decode cX0_init 102 = .ok (.iload_n 1, 1) := by decide +kernel
theorem dX0_init_103 : decode cX0_init 103 = .ok (.putfield 52, 3) := by decide +kernel
theorem dX0_init_106 : decode cX0_init 106 = .ok (.iconst 0, 1) := by decide +kernel
theorem dX0_init_107 : decode cX0_init 107 = .ok (.istore_n 2, 1) := by decide +kernel
theorem dX0_init_108 : decode cX0_init 108 = .ok (.iload_n 2, 1) := by decide +kernel
theorem dX0_init_109 : decode cX0_init 109 = .ok (.bipush 24, 2) := by decide +kernel
theorem dX0_init_111 : decode cX0_init 111 = .ok (.if_icmp .ge 30, 3) := by decide +kernel
theorem dX0_init_114 : decode cX0_init 114 = .ok (.aload_n 0, 1) := by decide +kernel
theorem dX0_init_115 : decode cX0_init 115 = .ok (.getfield 33, 3) := by decide +kernel
theorem dX0_init_118 : decode cX0_init 118 = .ok (.iload_n 2, 1) := by decide +kernel
theorem dX0_init_119 : decode cX0_init 119 = .ok (.iconst (-1), 1) := by decide +kernel
theorem dX0_init_120 : decode cX0_init 120 = .ok (.iastore, 1) := by decide +kernel
theorem dX0_init_121 : decode cX0_init 121 = .ok (.aload_n 0, 1) := by decide +kernel
theorem dX0_init_122 : decode cX0_init 122 = .ok (.getfield 36, 3) := by decide +kernel
theorem dX0_init_125 : decode cX0_init 125 = .ok (.iload_n 2, 1) := by decide +kernel
theorem dX0_init_126 : decode cX0_init 126 = .ok (.iconst (-1), 1) := by decide +kernel
theorem dX0_init_127 : decode cX0_init 127 = .ok (.iastore, 1) := by decide +kernel
theorem dX0_init_128 : decode cX0_init 128 = .ok (.aload_n 0, 1) := by decide +kernel
theorem dX0_init_129 : decode cX0_init 129 = .ok (.getfield 39, 3) := by decide +kernel
theorem dX0_init_132 : decode cX0_init 132 = .ok (.iload_n 2, 1) := by decide +kernel
theorem dX0_init_133 : decode cX0_init 133 = .ok (.iconst (-1), 1) := by decide +kernel
theorem dX0_init_134 : decode cX0_init 134 = .ok (.iastore, 1) := by decide +kernel
theorem dX0_init_135 : decode cX0_init 135 = .ok (.iinc 2 1, 3) := by decide +kernel
theorem dX0_init_138 : decode cX0_init 138 = .ok (.goto (-30), 3) := by decide +kernel
theorem dX0_init_141 : decode cX0_init 141 = .ok (.return_, 1) := by decide +kernel
theorem dX0_friendOf_0 : decode cX0_friendOf 0 = .ok (.iload_n 0, 1) := by decide +kernel
theorem dX0_friendOf_1 : decode cX0_friendOf 1 = .ok (.bipush 20, 2) := by decide +kernel
theorem dX0_friendOf_3 : decode cX0_friendOf 3 = .ok (.ishr, 1) := by decide +kernel
theorem dX0_friendOf_4 : decode cX0_friendOf 4 = .ok (.iconst 1, 1) := by decide +kernel
theorem dX0_friendOf_5 : decode cX0_friendOf 5 = .ok (.isub, 1) := by decide +kernel
theorem dX0_friendOf_6 : decode cX0_friendOf 6 = .ok (.ireturn, 1) := by decide +kernel
theorem dX0_netOfEntry_0 : decode cX0_netOfEntry 0 = .ok (.iload_n 0, 1) := by decide +kernel
theorem dX0_netOfEntry_1 : decode cX0_netOfEntry 1 = .ok (.bipush 12, 2) := by decide +kernel
theorem dX0_netOfEntry_3 : decode cX0_netOfEntry 3 = .ok (.ishr, 1) := by decide +kernel
theorem dX0_netOfEntry_4 : decode cX0_netOfEntry 4 = .ok (.sipush 255, 3) := by decide +kernel
theorem dX0_netOfEntry_7 : decode cX0_netOfEntry 7 = .ok (.iand, 1) := by decide +kernel
theorem dX0_netOfEntry_8 : decode cX0_netOfEntry 8 = .ok (.ireturn, 1) := by decide +kernel
theorem dX0_tollOf_0 : decode cX0_tollOf 0 = .ok (.iload_n 0, 1) := by decide +kernel
theorem dX0_tollOf_1 : decode cX0_tollOf 1 = .ok (.sipush 4095, 3) := by decide +kernel
theorem dX0_tollOf_4 : decode cX0_tollOf 4 = .ok (.iand, 1) := by decide +kernel
theorem dX0_tollOf_5 : decode cX0_tollOf 5 = .ok (.ireturn, 1) := by decide +kernel
theorem dX0_addToDraft_0 : decode cX0_addToDraft 0 = .ok (.aload_n 0, 1) := by decide +kernel
theorem dX0_addToDraft_1 : decode cX0_addToDraft 1 = .ok (.getfield 56, 3) := by decide +kernel
theorem dX0_addToDraft_4 : decode cX0_addToDraft 4 = .ok (.bipush 24, 2) := by decide +kernel
theorem dX0_addToDraft_6 : decode cX0_addToDraft 6 = .ok (.if_icmp .lt 4, 3) := by decide +kernel
theorem dX0_addToDraft_9 : decode cX0_addToDraft 9 = .ok (.return_, 1) := by decide +kernel
theorem dX0_addToDraft_10 : decode cX0_addToDraft 10 = .ok (.aload_n 0, 1) := by decide +kernel
theorem dX0_addToDraft_11 : decode cX0_addToDraft 11 = .ok (.getfield 26, 3) := by decide +kernel
theorem dX0_addToDraft_14 : decode cX0_addToDraft 14 = .ok (.aload_n 0, 1) := by decide +kernel
theorem dX0_addToDraft_15 : decode cX0_addToDraft 15 = .ok (.getfield 56, 3) := by decide +kernel
theorem dX0_addToDraft_18 : decode cX0_addToDraft 18 = .ok (.iload_n 1, 1) := by decide +kernel
theorem dX0_addToDraft_19 : decode cX0_addToDraft 19 = .ok (.bipush 20, 2) := by decide +kernel
theorem dX0_addToDraft_21 : decode cX0_addToDraft 21 = .ok (.ishl, 1) := by decide +kernel
theorem dX0_addToDraft_22 : decode cX0_addToDraft 22 = .ok (.iload_n 2, 1) := by decide +kernel
theorem dX0_addToDraft_23 : decode cX0_addToDraft 23 = .ok (.bipush 12, 2) := by decide +kernel
theorem dX0_addToDraft_25 : decode cX0_addToDraft 25 = .ok (.ishl, 1) := by decide +kernel
theorem dX0_addToDraft_26 : decode cX0_addToDraft 26 = .ok (.ior, 1) := by decide +kernel
theorem dX0_addToDraft_27 : decode cX0_addToDraft 27 = .ok (.iload_n 3, 1) := by decide +kernel
theorem dX0_addToDraft_28 : decode cX0_addToDraft 28 = .ok (.ior, 1) := by decide +kernel
theorem dX0_addToDraft_29 : decode cX0_addToDraft 29 = .ok (.iastore, 1) := by decide +kernel
theorem dX0_addToDraft_30 : decode cX0_addToDraft 30 = .ok (.aload_n 0, 1) := by decide +kernel
theorem dX0_addToDraft_31 : decode cX0_addToDraft 31 = .ok (.dup, 1) := by decide +kernel
theorem dX0_addToDraft_32 : decode cX0_addToDraft 32 = .ok (.getfield 56, 3) := by decide +kernel
theorem dX0_addToDraft_35 : decode cX0_addToDraft 35 = .ok (.iconst 1, 1) := by decide +kernel
theorem dX0_addToDraft_36 : decode cX0_addToDraft 36 = .ok (.iadd, 1) := by decide +kernel
theorem dX0_addToDraft_37 : decode cX0_addToDraft 37 = .ok (.putfield 56, 3) := by decide +kernel
theorem dX0_addToDraft_40 : decode cX0_addToDraft 40 = .ok (.return_, 1) := by decide +kernel
theorem dX0_tellsDraft_0 : decode cX0_tellsDraft 0 = .ok (.aload_n 0, 1) := by decide +kernel
theorem dX0_tellsDraft_1 : decode cX0_tellsDraft 1 = .ok (.getfield 18, 3) := by decide +kernel
theorem dX0_tellsDraft_4 : decode cX0_tellsDraft 4 = .ok (.iload_n 1, 1) := by decide +kernel
theorem dX0_tellsDraft_5 : decode cX0_tellsDraft 5 = .ok (.iaload, 1) := by decide +kernel
theorem dX0_tellsDraft_6 : decode cX0_tellsDraft 6 = .ok (.aload_n 0, 1) := by decide +kernel
theorem dX0_tellsDraft_7 : decode cX0_tellsDraft 7 = .ok (.getfield 56, 3) := by decide +kernel
theorem dX0_tellsDraft_10 : decode cX0_tellsDraft 10 = .ok (.if_icmp .eq 5, 3) := by decide +kernel
theorem dX0_tellsDraft_13 : decode cX0_tellsDraft 13 = .ok (.iconst 0, 1) := by decide +kernel
theorem dX0_tellsDraft_14 : decode cX0_tellsDraft 14 = .ok (.ireturn, 1) := by decide +kernel
theorem dX0_tellsDraft_15 : decode cX0_tellsDraft 15 = .ok (.iconst 0, 1) := by decide +kernel
theorem dX0_tellsDraft_16 : decode cX0_tellsDraft 16 = .ok (.istore_n 2, 1) := by decide +kernel
theorem dX0_tellsDraft_17 : decode cX0_tellsDraft 17 = .ok (.iload_n 2, 1) := by decide +kernel
theorem dX0_tellsDraft_18 : decode cX0_tellsDraft 18 = .ok (.aload_n 0, 1) := by decide +kernel
theorem dX0_tellsDraft_19 : decode cX0_tellsDraft 19 = .ok (.getfield 56, 3) := by decide +kernel
theorem dX0_tellsDraft_22 : decode cX0_tellsDraft 22 = .ok (.if_icmp .ge 28, 3) := by decide +kernel
theorem dX0_tellsDraft_25 : decode cX0_tellsDraft 25 = .ok (.aload_n 0, 1) := by decide +kernel
theorem dX0_tellsDraft_26 : decode cX0_tellsDraft 26 = .ok (.getfield 23, 3) := by decide +kernel
theorem dX0_tellsDraft_29 : decode cX0_tellsDraft 29 = .ok (.iload_n 1, 1) := by decide +kernel
theorem dX0_tellsDraft_30 : decode cX0_tellsDraft 30 = .ok (.aaload, 1) := by decide +kernel
theorem dX0_tellsDraft_31 : decode cX0_tellsDraft 31 = .ok (.iload_n 2, 1) := by decide +kernel
theorem dX0_tellsDraft_32 : decode cX0_tellsDraft 32 = .ok (.iaload, 1) := by decide +kernel
theorem dX0_tellsDraft_33 : decode cX0_tellsDraft 33 = .ok (.aload_n 0, 1) := by decide +kernel
theorem dX0_tellsDraft_34 : decode cX0_tellsDraft 34 = .ok (.getfield 26, 3) := by decide +kernel
theorem dX0_tellsDraft_37 : decode cX0_tellsDraft 37 = .ok (.iload_n 2, 1) := by decide +kernel
theorem dX0_tellsDraft_38 : decode cX0_tellsDraft 38 = .ok (.iaload, 1) := by decide +kernel
theorem dX0_tellsDraft_39 : decode cX0_tellsDraft 39 = .ok (.if_icmp .eq 5, 3) := by decide +kernel
theorem dX0_tellsDraft_42 : decode cX0_tellsDraft 42 = .ok (.iconst 0, 1) := by decide +kernel
theorem dX0_tellsDraft_43 : decode cX0_tellsDraft 43 = .ok (.ireturn, 1) := by decide +kernel
theorem dX0_tellsDraft_44 : decode cX0_tellsDraft 44 = .ok (.iinc 2 1, 3) := by decide +kernel
theorem dX0_tellsDraft_47 : decode cX0_tellsDraft 47 = .ok (.goto (-30), 3) := by decide +kernel
theorem dX0_tellsDraft_50 : decode cX0_tellsDraft 50 = .ok (.iconst 1, 1) := by decide +kernel
theorem dX0_tellsDraft_51 : decode cX0_tellsDraft 51 = .ok (.ireturn, 1) := by decide +kernel
theorem dX0_takeDraft_0 : decode cX0_takeDraft 0 = .ok (.aload_n 0, 1) := by decide +kernel
theorem dX0_takeDraft_1 : decode cX0_takeDraft 1 = .ok (.getfield 9, 3) := by decide +kernel
theorem dX0_takeDraft_4 : decode cX0_takeDraft 4 = .ok (.iload_n 1, 1) := by decide +kernel
theorem dX0_takeDraft_5 : decode cX0_takeDraft 5 = .ok (.iload_n 2, 1) := by decide +kernel
theorem dX0_takeDraft_6 : decode cX0_takeDraft 6 = .ok (.iastore, 1) := by decide +kernel
theorem dX0_takeDraft_7 : decode cX0_takeDraft 7 = .ok (.aload_n 0, 1) := by decide +kernel
theorem dX0_takeDraft_8 : decode cX0_takeDraft 8 = .ok (.getfield 15, 3) := by decide +kernel
theorem dX0_takeDraft_11 : decode cX0_takeDraft 11 = .ok (.iload_n 1, 1) := by decide +kernel
theorem dX0_takeDraft_12 : decode cX0_takeDraft 12 = .ok (.iload_n 3, 1) := by decide +kernel
theorem dX0_takeDraft_13 : decode cX0_takeDraft 13 = .ok (.iastore, 1) := by decide +kernel
theorem dX0_takeDraft_14 : decode cX0_takeDraft 14 = .ok (.aload_n 0, 1) := by decide +kernel
theorem dX0_takeDraft_15 : decode cX0_takeDraft 15 = .ok (.getfield 18, 3) := by decide +kernel
theorem dX0_takeDraft_18 : decode cX0_takeDraft 18 = .ok (.iload_n 1, 1) := by decide +kernel
theorem dX0_takeDraft_19 : decode cX0_takeDraft 19 = .ok (.aload_n 0, 1) := by decide +kernel
theorem dX0_takeDraft_20 : decode cX0_takeDraft 20 = .ok (.getfield 56, 3) := by decide +kernel
theorem dX0_takeDraft_23 : decode cX0_takeDraft 23 = .ok (.iastore, 1) := by decide +kernel
theorem dX0_takeDraft_24 : decode cX0_takeDraft 24 = .ok (.iconst 0, 1) := by decide +kernel
theorem dX0_takeDraft_25 : decode cX0_takeDraft 25 = .ok (.istore 4, 2) := by decide +kernel
theorem dX0_takeDraft_27 : decode cX0_takeDraft 27 = .ok (.iload 4, 2) := by decide +kernel
theorem dX0_takeDraft_29 : decode cX0_takeDraft 29 = .ok (.aload_n 0, 1) := by decide +kernel
theorem dX0_takeDraft_30 : decode cX0_takeDraft 30 = .ok (.getfield 56, 3) := by decide +kernel
theorem dX0_takeDraft_33 : decode cX0_takeDraft 33 = .ok (.if_icmp .ge 25, 3) := by decide +kernel
theorem dX0_takeDraft_36 : decode cX0_takeDraft 36 = .ok (.aload_n 0, 1) := by decide +kernel
theorem dX0_takeDraft_37 : decode cX0_takeDraft 37 = .ok (.getfield 23, 3) := by decide +kernel
theorem dX0_takeDraft_40 : decode cX0_takeDraft 40 = .ok (.iload_n 1, 1) := by decide +kernel
theorem dX0_takeDraft_41 : decode cX0_takeDraft 41 = .ok (.aaload, 1) := by decide +kernel
theorem dX0_takeDraft_42 : decode cX0_takeDraft 42 = .ok (.iload 4, 2) := by decide +kernel
theorem dX0_takeDraft_44 : decode cX0_takeDraft 44 = .ok (.aload_n 0, 1) := by decide +kernel
theorem dX0_takeDraft_45 : decode cX0_takeDraft 45 = .ok (.getfield 26, 3) := by decide +kernel
theorem dX0_takeDraft_48 : decode cX0_takeDraft 48 = .ok (.iload 4, 2) := by decide +kernel
theorem dX0_takeDraft_50 : decode cX0_takeDraft 50 = .ok (.iaload, 1) := by decide +kernel
theorem dX0_takeDraft_51 : decode cX0_takeDraft 51 = .ok (.iastore, 1) := by decide +kernel
theorem dX0_takeDraft_52 : decode cX0_takeDraft 52 = .ok (.iinc 4 1, 3) := by decide +kernel
theorem dX0_takeDraft_55 : decode cX0_takeDraft 55 = .ok (.goto (-28), 3) := by decide +kernel
theorem dX0_takeDraft_58 : decode cX0_takeDraft 58 = .ok (.aload_n 0, 1) := by decide +kernel
theorem dX0_takeDraft_59 : decode cX0_takeDraft 59 = .ok (.iconst 1, 1) := by decide +kernel
theorem dX0_takeDraft_60 : decode cX0_takeDraft 60 = .ok (.putfield 29, 3) := by decide +kernel
theorem dX0_takeDraft_63 : decode cX0_takeDraft 63 = .ok (.return_, 1) := by decide +kernel
theorem dX0_takeAdvert_0 : decode cX0_takeAdvert 0 = .ok (.aload_n 0, 1) := by decide +kernel
theorem dX0_takeAdvert_1 : decode cX0_takeAdvert 1 = .ok (.iconst 0, 1) := by decide +kernel
theorem dX0_takeAdvert_2 : decode cX0_takeAdvert 2 = .ok (.putfield 56, 3) := by decide +kernel
theorem dX0_takeAdvert_5 : decode cX0_takeAdvert 5 = .ok (.aload_n 1, 1) := by decide +kernel
theorem dX0_takeAdvert_6 : decode cX0_takeAdvert 6 = .ok (.bipush 6, 2) := by decide +kernel
theorem dX0_takeAdvert_8 : decode cX0_takeAdvert 8 = .ok (.invokevirtual 59, 3) := by decide +kernel
theorem dX0_takeAdvert_11 : decode cX0_takeAdvert 11 = .ok (.bipush 24, 2) := by decide +kernel
theorem dX0_takeAdvert_13 : decode cX0_takeAdvert 13 = .ok (.invokestatic 65, 3) := by decide +kernel
theorem dX0_takeAdvert_16 : decode cX0_takeAdvert 16 = .ok (.istore 5, 2) := by decide +kernel
theorem dX0_takeAdvert_18 : decode cX0_takeAdvert 18 = .ok (.iconst 0, 1) := by decide +kernel
theorem dX0_takeAdvert_19 : decode cX0_takeAdvert 19 = .ok (.istore 6, 2) := by decide +kernel
theorem dX0_takeAdvert_21 : decode cX0_takeAdvert 21 = .ok (.iload 6, 2) := by decide +kernel
theorem dX0_takeAdvert_23 : decode cX0_takeAdvert 23 = .ok (.iload 5, 2) := by decide +kernel
theorem dX0_takeAdvert_25 : decode cX0_takeAdvert 25 = .ok (.if_icmp .ge 45, 3) := by decide +kernel
theorem dX0_takeAdvert_28 : decode cX0_takeAdvert 28 = .ok (.bipush 12, 2) := by decide +kernel
theorem dX0_takeAdvert_30 : decode cX0_takeAdvert 30 = .ok (.bipush 6, 2) := by decide +kernel
theorem dX0_takeAdvert_32 : decode cX0_takeAdvert 32 = .ok (.iload 6, 2) := by decide +kernel
theorem dX0_takeAdvert_34 : decode cX0_takeAdvert 34 = .ok (.imul, 1) := by decide +kernel
theorem dX0_takeAdvert_35 : decode cX0_takeAdvert 35 = .ok (.iadd, 1) := by decide +kernel
theorem dX0_takeAdvert_36 : decode cX0_takeAdvert 36 = .ok (.istore 7, 2) := by decide +kernel
theorem dX0_takeAdvert_38 : decode cX0_takeAdvert 38 = .ok (.aload_n 0, 1) := by decide +kernel
theorem dX0_takeAdvert_39 : decode cX0_takeAdvert 39 = .ok (.aload_n 1, 1) := by decide +kernel
theorem dX0_takeAdvert_40 : decode cX0_takeAdvert 40 = .ok (.iload 7, 2) := by decide +kernel
theorem dX0_takeAdvert_42 : decode cX0_takeAdvert 42 = .ok (.invokevirtual 59, 3) := by decide +kernel
theorem dX0_takeAdvert_45 : decode cX0_takeAdvert 45 = .ok (.aload_n 1, 1) := by decide +kernel
theorem dX0_takeAdvert_46 : decode cX0_takeAdvert 46 = .ok (.iload 7, 2) := by decide +kernel
theorem dX0_takeAdvert_48 : decode cX0_takeAdvert 48 = .ok (.iconst 2, 1) := by decide +kernel
theorem dX0_takeAdvert_49 : decode cX0_takeAdvert 49 = .ok (.iadd, 1) := by decide +kernel
theorem dX0_takeAdvert_50 : decode cX0_takeAdvert 50 = .ok (.invokevirtual 59, 3) := by decide +kernel
theorem dX0_takeAdvert_53 : decode cX0_takeAdvert 53 = .ok (.aload_n 1, 1) := by decide +kernel
theorem dX0_takeAdvert_54 : decode cX0_takeAdvert 54 = .ok (.iload 7, 2) := by decide +kernel
theorem dX0_takeAdvert_56 : decode cX0_takeAdvert 56 = .ok (.iconst 4, 1) := by decide +kernel
theorem dX0_takeAdvert_57 : decode cX0_takeAdvert 57 = .ok (.iadd, 1) := by decide +kernel
theorem dX0_takeAdvert_58 : decode cX0_takeAdvert 58 = .ok (.invokevirtual 59, 3) := by decide +kernel
theorem dX0_takeAdvert_61 : decode cX0_takeAdvert 61 = .ok (.invokevirtual 71, 3) := by decide +kernel
theorem dX0_takeAdvert_64 : decode cX0_takeAdvert 64 = .ok (.iinc 6 1, 3) := by decide +kernel
theorem dX0_takeAdvert_67 : decode cX0_takeAdvert 67 = .ok (.goto (-46), 3) := by decide +kernel
theorem dX0_takeAdvert_70 : decode cX0_takeAdvert 70 = .ok (.aload_n 0, 1) := by decide +kernel
theorem dX0_takeAdvert_71 : decode cX0_takeAdvert 71 = .ok (.iload_n 2, 1) := by decide +kernel
theorem dX0_takeAdvert_72 : decode cX0_takeAdvert 72 = .ok (.iload_n 3, 1) := by decide +kernel
theorem dX0_takeAdvert_73 : decode cX0_takeAdvert 73 = .ok (.iload 4, 2) := by decide +kernel
theorem dX0_takeAdvert_75 : decode cX0_takeAdvert 75 = .ok (.invokevirtual 75, 3) := by decide +kernel
theorem dX0_takeAdvert_78 : decode cX0_takeAdvert 78 = .ok (.return_, 1) := by decide +kernel
theorem dX0_putAdvert_0 : decode cX0_putAdvert 0 = .ok (.aload_n 1, 1) := by decide +kernel
theorem dX0_putAdvert_1 : decode cX0_putAdvert 1 = .ok (.iconst 3, 1) := by decide +kernel
theorem dX0_putAdvert_2 : decode cX0_putAdvert 2 = .ok (.bipush 12, 2) := by decide +kernel
theorem dX0_putAdvert_4 : decode cX0_putAdvert 4 = .ok (.bipush 6, 2) := by decide +kernel
theorem dX0_putAdvert_6 : decode cX0_putAdvert 6 = .ok (.aload_n 0, 1) := by decide +kernel
theorem dX0_putAdvert_7 : decode cX0_putAdvert 7 = .ok (.getfield 18, 3) := by decide +kernel
theorem dX0_putAdvert_10 : decode cX0_putAdvert 10 = .ok (.iload_n 2, 1) := by decide +kernel
theorem dX0_putAdvert_11 : decode cX0_putAdvert 11 = .ok (.iaload, 1) := by decide +kernel
theorem dX0_putAdvert_12 : decode cX0_putAdvert 12 = .ok (.imul, 1) := by decide +kernel
theorem dX0_putAdvert_13 : decode cX0_putAdvert 13 = .ok (.iadd, 1) := by decide +kernel
theorem dX0_putAdvert_14 : decode cX0_putAdvert 14 = .ok (.invokevirtual 78, 3) := by decide +kernel
theorem dX0_putAdvert_17 : decode cX0_putAdvert 17 = .ok (.aload_n 1, 1) := by decide +kernel
theorem dX0_putAdvert_18 : decode cX0_putAdvert 18 = .ok (.iconst 0, 1) := by decide +kernel
theorem dX0_putAdvert_19 : decode cX0_putAdvert 19 = .ok (.iload_n 2, 1) := by decide +kernel
theorem dX0_putAdvert_20 : decode cX0_putAdvert 20 = .ok (.invokevirtual 82, 3) := by decide +kernel
theorem dX0_putAdvert_23 : decode cX0_putAdvert 23 = .ok (.aload_n 1, 1) := by decide +kernel
theorem dX0_putAdvert_24 : decode cX0_putAdvert 24 = .ok (.iconst 2, 1) := by decide +kernel
theorem dX0_putAdvert_25 : decode cX0_putAdvert 25 = .ok (.aload_n 0, 1) := by decide +kernel
theorem dX0_putAdvert_26 : decode cX0_putAdvert 26 = .ok (.getfield 9, 3) := by decide +kernel
theorem dX0_putAdvert_29 : decode cX0_putAdvert 29 = .ok (.iload_n 2, 1) := by decide +kernel
theorem dX0_putAdvert_30 : decode cX0_putAdvert 30 = .ok (.iaload, 1) := by decide +kernel
theorem dX0_putAdvert_31 : decode cX0_putAdvert 31 = .ok (.invokevirtual 85, 3) := by decide +kernel
theorem dX0_putAdvert_34 : decode cX0_putAdvert 34 = .ok (.aload_n 1, 1) := by decide +kernel
theorem dX0_putAdvert_35 : decode cX0_putAdvert 35 = .ok (.bipush 6, 2) := by decide +kernel
theorem dX0_putAdvert_37 : decode cX0_putAdvert 37 = .ok (.aload_n 0, 1) := by decide +kernel
theorem dX0_putAdvert_38 : decode cX0_putAdvert 38 = .ok (.getfield 18, 3) := by decide +kernel
theorem dX0_putAdvert_41 : decode cX0_putAdvert 41 = .ok (.iload_n 2, 1) := by decide +kernel
theorem dX0_putAdvert_42 : decode cX0_putAdvert 42 = .ok (.iaload, 1) := by decide +kernel
theorem dX0_putAdvert_43 : decode cX0_putAdvert 43 = .ok (.invokevirtual 82, 3) := by decide +kernel
theorem dX0_putAdvert_46 : decode cX0_putAdvert 46 = .ok (.iconst 0, 1) := by decide +kernel
theorem dX0_putAdvert_47 : decode cX0_putAdvert 47 = .ok (.istore_n 3, 1) := by decide +kernel
theorem dX0_putAdvert_48 : decode cX0_putAdvert 48 = .ok (.iload_n 3, 1) := by decide +kernel
theorem dX0_putAdvert_49 : decode cX0_putAdvert 49 = .ok (.aload_n 0, 1) := by decide +kernel
theorem dX0_putAdvert_50 : decode cX0_putAdvert 50 = .ok (.getfield 18, 3) := by decide +kernel
theorem dX0_putAdvert_53 : decode cX0_putAdvert 53 = .ok (.iload_n 2, 1) := by decide +kernel
theorem dX0_putAdvert_54 : decode cX0_putAdvert 54 = .ok (.iaload, 1) := by decide +kernel
theorem dX0_putAdvert_55 : decode cX0_putAdvert 55 = .ok (.if_icmp .ge 75, 3) := by decide +kernel
theorem dX0_putAdvert_58 : decode cX0_putAdvert 58 = .ok (.bipush 12, 2) := by decide +kernel
theorem dX0_putAdvert_60 : decode cX0_putAdvert 60 = .ok (.bipush 6, 2) := by decide +kernel
theorem dX0_putAdvert_62 : decode cX0_putAdvert 62 = .ok (.iload_n 3, 1) := by decide +kernel
theorem dX0_putAdvert_63 : decode cX0_putAdvert 63 = .ok (.imul, 1) := by decide +kernel
theorem dX0_putAdvert_64 : decode cX0_putAdvert 64 = .ok (.iadd, 1) := by decide +kernel
theorem dX0_putAdvert_65 : decode cX0_putAdvert 65 = .ok (.istore 4, 2) := by decide +kernel
theorem dX0_putAdvert_67 : decode cX0_putAdvert 67 = .ok (.aload_n 1, 1) := by decide +kernel
theorem dX0_putAdvert_68 : decode cX0_putAdvert 68 = .ok (.iload 4, 2) := by decide +kernel
theorem dX0_putAdvert_70 : decode cX0_putAdvert 70 = .ok (.aload_n 0, 1) := by decide +kernel
theorem dX0_putAdvert_71 : decode cX0_putAdvert 71 = .ok (.getfield 23, 3) := by decide +kernel
theorem dX0_putAdvert_74 : decode cX0_putAdvert 74 = .ok (.iload_n 2, 1) := by decide +kernel
theorem dX0_putAdvert_75 : decode cX0_putAdvert 75 = .ok (.aaload, 1) := by decide +kernel
theorem dX0_putAdvert_76 : decode cX0_putAdvert 76 = .ok (.iload_n 3, 1) := by decide +kernel
theorem dX0_putAdvert_77 : decode cX0_putAdvert 77 = .ok (.iaload, 1) := by decide +kernel
theorem dX0_putAdvert_78 : decode cX0_putAdvert 78 = .ok (.invokestatic 88, 3) := by decide +kernel
theorem dX0_putAdvert_81 : decode cX0_putAdvert 81 = .ok (.iconst 1, 1) := by decide +kernel
theorem dX0_putAdvert_82 : decode cX0_putAdvert 82 = .ok (.iadd, 1) := by decide +kernel
theorem dX0_putAdvert_83 : decode cX0_putAdvert 83 = .ok (.invokevirtual 82, 3) := by decide +kernel
theorem dX0_putAdvert_86 : decode cX0_putAdvert 86 = .ok (.aload_n 1, 1) := by decide +kernel
theorem dX0_putAdvert_87 : decode cX0_putAdvert 87 = .ok (.iload 4, 2) := by decide +kernel
theorem dX0_putAdvert_89 : decode cX0_putAdvert 89 = .ok (.iconst 2, 1) := by decide +kernel
theorem dX0_putAdvert_90 : decode cX0_putAdvert 90 = .ok (.iadd, 1) := by decide +kernel
theorem dX0_putAdvert_91 : decode cX0_putAdvert 91 = .ok (.aload_n 0, 1) := by decide +kernel
theorem dX0_putAdvert_92 : decode cX0_putAdvert 92 = .ok (.getfield 23, 3) := by decide +kernel
theorem dX0_putAdvert_95 : decode cX0_putAdvert 95 = .ok (.iload_n 2, 1) := by decide +kernel
theorem dX0_putAdvert_96 : decode cX0_putAdvert 96 = .ok (.aaload, 1) := by decide +kernel
theorem dX0_putAdvert_97 : decode cX0_putAdvert 97 = .ok (.iload_n 3, 1) := by decide +kernel
theorem dX0_putAdvert_98 : decode cX0_putAdvert 98 = .ok (.iaload, 1) := by decide +kernel
theorem dX0_putAdvert_99 : decode cX0_putAdvert 99 = .ok (.invokestatic 91, 3) := by decide +kernel
theorem dX0_putAdvert_102 : decode cX0_putAdvert 102 = .ok (.invokevirtual 82, 3) := by decide +kernel
theorem dX0_putAdvert_105 : decode cX0_putAdvert 105 = .ok (.aload_n 1, 1) := by decide +kernel
theorem dX0_putAdvert_106 : decode cX0_putAdvert 106 = .ok (.iload 4, 2) := by decide +kernel
theorem dX0_putAdvert_108 : decode cX0_putAdvert 108 = .ok (.iconst 4, 1) := by decide +kernel
theorem dX0_putAdvert_109 : decode cX0_putAdvert 109 = .ok (.iadd, 1) := by decide +kernel
theorem dX0_putAdvert_110 : decode cX0_putAdvert 110 = .ok (.aload_n 0, 1) := by decide +kernel
theorem dX0_putAdvert_111 : decode cX0_putAdvert 111 = .ok (.getfield 23, 3) := by decide +kernel
theorem dX0_putAdvert_114 : decode cX0_putAdvert 114 = .ok (.iload_n 2, 1) := by decide +kernel
theorem dX0_putAdvert_115 : decode cX0_putAdvert 115 = .ok (.aaload, 1) := by decide +kernel
theorem dX0_putAdvert_116 : decode cX0_putAdvert 116 = .ok (.iload_n 3, 1) := by decide +kernel
theorem dX0_putAdvert_117 : decode cX0_putAdvert 117 = .ok (.iaload, 1) := by decide +kernel
theorem dX0_putAdvert_118 : decode cX0_putAdvert 118 = .ok (.invokestatic 94, 3) := by decide +kernel
theorem dX0_putAdvert_121 : decode cX0_putAdvert 121 = .ok (.invokevirtual 82, 3) := by decide +kernel
theorem dX0_putAdvert_124 : decode cX0_putAdvert 124 = .ok (.iinc 3 1, 3) := by decide +kernel
theorem dX0_putAdvert_127 : decode cX0_putAdvert 127 = .ok (.goto (-79), 3) := by decide +kernel
theorem dX0_putAdvert_130 : decode cX0_putAdvert 130 = .ok (.return_, 1) := by decide +kernel
theorem dX0_takeOut_0 : decode cX0_takeOut 0 = .ok (.aload_n 0, 1) := by decide +kernel
theorem dX0_takeOut_1 : decode cX0_takeOut 1 = .ok (.getfield 9, 3) := by decide +kernel
theorem dX0_takeOut_4 : decode cX0_takeOut 4 = .ok (.iload_n 1, 1) := by decide +kernel
theorem dX0_takeOut_5 : decode cX0_takeOut 5 = .ok (.iconst 0, 1) := by decide +kernel
theorem dX0_takeOut_6 : decode cX0_takeOut 6 = .ok (.iastore, 1) := by decide +kernel
theorem dX0_takeOut_7 : decode cX0_takeOut 7 = .ok (.aload_n 0, 1) := by decide +kernel
theorem dX0_takeOut_8 : decode cX0_takeOut 8 = .ok (.getfield 18, 3) := by decide +kernel
theorem dX0_takeOut_11 : decode cX0_takeOut 11 = .ok (.iload_n 1, 1) := by decide +kernel
theorem dX0_takeOut_12 : decode cX0_takeOut 12 = .ok (.iconst 0, 1) := by decide +kernel
theorem dX0_takeOut_13 : decode cX0_takeOut 13 = .ok (.iastore, 1) := by decide +kernel
theorem dX0_takeOut_14 : decode cX0_takeOut 14 = .ok (.aload_n 0, 1) := by decide +kernel
theorem dX0_takeOut_15 : decode cX0_takeOut 15 = .ok (.iconst 1, 1) := by decide +kernel
theorem dX0_takeOut_16 : decode cX0_takeOut 16 = .ok (.putfield 29, 3) := by decide +kernel
theorem dX0_takeOut_19 : decode cX0_takeOut 19 = .ok (.return_, 1) := by decide +kernel
theorem dX0_findWays_0 : decode cX0_findWays 0 = .ok (.aload_n 0, 1) := by decide +kernel
theorem dX0_findWays_1 : decode cX0_findWays 1 = .ok (.iconst 0, 1) := by decide +kernel
theorem dX0_findWays_2 : decode cX0_findWays 2 = .ok (.putfield 29, 3) := by decide +kernel
theorem dX0_findWays_5 : decode cX0_findWays 5 = .ok (.aload_n 0, 1) := by decide +kernel
theorem dX0_findWays_6 : decode cX0_findWays 6 = .ok (.invokevirtual 97, 3) := by decide +kernel
theorem dX0_findWays_9 : decode cX0_findWays 9 = .ok (.iconst 0, 1) := by decide +kernel
theorem dX0_findWays_10 : decode cX0_findWays 10 = .ok (.istore_n 3, 1) := by decide +kernel
theorem dX0_findWays_11 : decode cX0_findWays 11 = .ok (.iload_n 3, 1) := by decide +kernel
theorem dX0_findWays_12 : decode cX0_findWays 12 = .ok (.iload_n 2, 1) := by decide +kernel
theorem dX0_findWays_13 : decode cX0_findWays 13 = .ok (.if_icmp .ge 55, 3) := by decide +kernel
theorem dX0_findWays_16 : decode cX0_findWays 16 = .ok (.aload_n 1, 1) := by decide +kernel
theorem dX0_findWays_17 : decode cX0_findWays 17 = .ok (.iload_n 3, 1) := by decide +kernel
theorem dX0_findWays_18 : decode cX0_findWays 18 = .ok (.invokevirtual 100, 3) := by decide +kernel
theorem dX0_findWays_21 : decode cX0_findWays 21 = .ok (.astore 4, 2) := by decide +kernel
theorem dX0_findWays_23 : decode cX0_findWays 23 = .ok (.aload 4, 2) := by decide +kernel
theorem dX0_findWays_25 : decode cX0_findWays 25 = .ok (.ifnull 32, 3) := by decide +kernel
theorem dX0_findWays_28 : decode cX0_findWays 28 = .ok (.aload 4, 2) := by decide +kernel
theorem dX0_findWays_30 : decode cX0_findWays 30 = .ok (.getfield 106, 3) := by decide +kernel
theorem dX0_findWays_33 : decode cX0_findWays 33 = .ok (.getfield 112, 3) := by decide +kernel
theorem dX0_findWays_36 : decode cX0_findWays 36 = .ok (.ifCond .eq 21, 3) := by decide +kernel
theorem dX0_findWays_39 : decode cX0_findWays 39 = .ok (.aload_n 0, 1) := by decide +kernel
theorem dX0_findWays_40 : decode cX0_findWays 40 = .ok (.iload_n 3, 1) := by decide +kernel
theorem dX0_findWays_41 : decode cX0_findWays 41 = .ok (.aload 4, 2) := by decide +kernel
theorem dX0_findWays_43 : decode cX0_findWays 43 = .ok (.getfield 117, 3) := by decide +kernel
theorem dX0_findWays_46 : decode cX0_findWays 46 = .ok (.aload_n 0, 1) := by decide +kernel
theorem dX0_findWays_47 : decode cX0_findWays 47 = .ok (.getfield 52, 3) := by decide +kernel
theorem dX0_findWays_50 : decode cX0_findWays 50 = .ok (.iload_n 3, 1) := by decide +kernel
theorem dX0_findWays_51 : decode cX0_findWays 51 = .ok (.invokevirtual 120, 3) := by decide +kernel
theorem dX0_findWays_54 : decode cX0_findWays 54 = .ok (.goto 8, 3) := by decide +kernel
theorem dX0_findWays_57 : decode cX0_findWays 57 = .ok (.aload_n 0, 1) := by decide +kernel
theorem dX0_findWays_58 : decode cX0_findWays 58 = .ok (.iload_n 3, 1) := by decide +kernel
theorem dX0_findWays_59 : decode cX0_findWays 59 = .ok (.invokevirtual 124, 3) := by decide +kernel
theorem dX0_findWays_62 : decode cX0_findWays 62 = .ok (.iinc 3 1, 3) := by decide +kernel
theorem dX0_findWays_65 : decode cX0_findWays 65 = .ok (.goto (-54), 3) := by decide +kernel
theorem dX0_findWays_68 : decode cX0_findWays 68 = .ok (.return_, 1) := by decide +kernel
theorem dX0_setWay_0 : decode cX0_setWay 0 = .ok (.aload_n 0, 1) := by decide +kernel
theorem dX0_setWay_1 : decode cX0_setWay 1 = .ok (.getfield 33, 3) := by decide +kernel
theorem dX0_setWay_4 : decode cX0_setWay 4 = .ok (.iload_n 1, 1) := by decide +kernel
theorem dX0_setWay_5 : decode cX0_setWay 5 = .ok (.iload_n 2, 1) := by decide +kernel
theorem dX0_setWay_6 : decode cX0_setWay 6 = .ok (.iastore, 1) := by decide +kernel
theorem dX0_setWay_7 : decode cX0_setWay 7 = .ok (.aload_n 0, 1) := by decide +kernel
theorem dX0_setWay_8 : decode cX0_setWay 8 = .ok (.getfield 36, 3) := by decide +kernel
theorem dX0_setWay_11 : decode cX0_setWay 11 = .ok (.iload_n 1, 1) := by decide +kernel
theorem dX0_setWay_12 : decode cX0_setWay 12 = .ok (.iload_n 3, 1) := by decide +kernel
theorem dX0_setWay_13 : decode cX0_setWay 13 = .ok (.iastore, 1) := by decide +kernel
theorem dX0_setWay_14 : decode cX0_setWay 14 = .ok (.aload_n 0, 1) := by decide +kernel
theorem dX0_setWay_15 : decode cX0_setWay 15 = .ok (.getfield 39, 3) := by decide +kernel
theorem dX0_setWay_18 : decode cX0_setWay 18 = .ok (.iload_n 1, 1) := by decide +kernel
theorem dX0_setWay_19 : decode cX0_setWay 19 = .ok (.iload 4, 2) := by decide +kernel
theorem dX0_setWay_21 : decode cX0_setWay 21 = .ok (.iastore, 1) := by decide +kernel
theorem dX0_setWay_22 : decode cX0_setWay 22 = .ok (.return_, 1) := by decide +kernel
theorem dX0_findFarWay_0 : decode cX0_findFarWay 0 = .ok (.ldc 128, 2) := by decide +kernel
theorem dX0_findFarWay_2 : decode cX0_findFarWay 2 = .ok (.istore_n 2, 1) := by decide +kernel
theorem dX0_findFarWay_3 : decode cX0_findFarWay 3 = .ok (.iconst (-1), 1) := by decide +kernel
theorem dX0_findFarWay_4 : decode cX0_findFarWay 4 = .ok (.istore_n 3, 1) := by decide +kernel
theorem dX0_findFarWay_5 : decode cX0_findFarWay 5 = .ok (.iconst 0, 1) := by decide +kernel
theorem dX0_findFarWay_6 : decode cX0_findFarWay 6 = .ok (.istore 4, 2) := by decide +kernel
theorem dX0_findFarWay_8 : decode cX0_findFarWay 8 = .ok (.iload 4, 2) := by decide +kernel
theorem dX0_findFarWay_10 : decode cX0_findFarWay 10 = .ok (.bipush 16, 2) := by decide +kernel
theorem dX0_findFarWay_12 : decode cX0_findFarWay 12 = .ok (.if_icmp .ge 102, 3) := by decide +kernel
theorem dX0_findFarWay_15 : decode cX0_findFarWay 15 = .ok (.aload_n 0, 1) := by decide +kernel
theorem dX0_findFarWay_16 : decode cX0_findFarWay 16 = .ok (.getfield 42, 3) := by decide +kernel
theorem dX0_findFarWay_19 : decode cX0_findFarWay 19 = .ok (.iload 4, 2) := by decide +kernel
theorem dX0_findFarWay_21 : decode cX0_findFarWay 21 = .ok (.iaload, 1) := by decide +kernel
theorem dX0_findFarWay_22 : decode cX0_findFarWay 22 = .ok (.ldc 128, 2) := by decide +kernel
theorem dX0_findFarWay_24 : decode cX0_findFarWay 24 = .ok (.if_icmp .ne 6, 3) := by decide +kernel
theorem dX0_findFarWay_27 : decode cX0_findFarWay 27 = .ok (.goto 81, 3) := by decide +kernel
theorem dX0_findFarWay_30 : decode cX0_findFarWay 30 = .ok (.aload_n 0, 1) := by decide +kernel
theorem dX0_findFarWay_31 : decode cX0_findFarWay 31 = .ok (.iload 4, 2) := by decide +kernel
theorem dX0_findFarWay_33 : decode cX0_findFarWay 33 = .ok (.iload_n 1, 1) := by decide +kernel
theorem dX0_findFarWay_34 : decode cX0_findFarWay 34 = .ok (.invokevirtual 129, 3) := by decide +kernel
theorem dX0_findFarWay_37 : decode cX0_findFarWay 37 = .ok (.istore 5, 2) := by decide +kernel
theorem dX0_findFarWay_39 : decode cX0_findFarWay 39 = .ok (.iload 5, 2) := by decide +kernel
theorem dX0_findFarWay_41 : decode cX0_findFarWay 41 = .ok (.ifCond .eq 67, 3) := by decide +kernel
theorem dX0_findFarWay_44 : decode cX0_findFarWay 44 = .ok (.aload_n 0, 1) := by decide +kernel
theorem dX0_findFarWay_45 : decode cX0_findFarWay 45 = .ok (.getfield 42, 3) := by decide +kernel
theorem dX0_findFarWay_48 : decode cX0_findFarWay 48 = .ok (.iload 4, 2) := by decide +kernel
theorem dX0_findFarWay_50 : decode cX0_findFarWay 50 = .ok (.iaload, 1) := by decide +kernel
theorem dX0_findFarWay_51 : decode cX0_findFarWay 51 = .ok (.iload 5, 2) := by decide +kernel
theorem dX0_findFarWay_53 : decode cX0_findFarWay 53 = .ok (.iadd, 1) := by decide +kernel
theorem dX0_findFarWay_54 : decode cX0_findFarWay 54 = .ok (.iload_n 2, 1) := by decide +kernel
theorem dX0_findFarWay_55 : decode cX0_findFarWay 55 = .ok (.if_icmp .le 6, 3) := by decide +kernel
theorem dX0_findFarWay_58 : decode cX0_findFarWay 58 = .ok (.goto 50, 3) := by decide +kernel
theorem dX0_findFarWay_61 : decode cX0_findFarWay 61 = .ok (.aload_n 0, 1) := by decide +kernel
theorem dX0_findFarWay_62 : decode cX0_findFarWay 62 = .ok (.getfield 42, 3) := by decide +kernel
theorem dX0_findFarWay_65 : decode cX0_findFarWay 65 = .ok (.iload 4, 2) := by decide +kernel
theorem dX0_findFarWay_67 : decode cX0_findFarWay 67 = .ok (.iaload, 1) := by decide +kernel
theorem dX0_findFarWay_68 : decode cX0_findFarWay 68 = .ok (.iload 5, 2) := by decide +kernel
theorem dX0_findFarWay_70 : decode cX0_findFarWay 70 = .ok (.iadd, 1) := by decide +kernel
theorem dX0_findFarWay_71 : decode cX0_findFarWay 71 = .ok (.iload_n 2, 1) := by decide +kernel
theorem dX0_findFarWay_72 : decode cX0_findFarWay 72 = .ok (.if_icmp .ge 13, 3) := by decide +kernel
theorem dX0_findFarWay_75 : decode cX0_findFarWay 75 = .ok (.aload_n 0, 1) := by decide +kernel
theorem dX0_findFarWay_76 : decode cX0_findFarWay 76 = .ok (.getfield 49, 3) := by decide +kernel
theorem dX0_findFarWay_79 : decode cX0_findFarWay 79 = .ok (.iload 4, 2) := by decide +kernel
theorem dX0_findFarWay_81 : decode cX0_findFarWay 81 = .ok (.iaload, 1) := by decide +kernel
theorem dX0_findFarWay_82 : decode cX0_findFarWay 82 = .ok (.goto 14, 3) := by decide +kernel
theorem dX0_findFarWay_85 : decode cX0_findFarWay 85 = .ok (.iload_n 3, 1) := by decide +kernel
theorem dX0_findFarWay_86 : decode cX0_findFarWay 86 = .ok (.aload_n 0, 1) := by decide +kernel
theorem dX0_findFarWay_87 : decode cX0_findFarWay 87 = .ok (.getfield 49, 3) := by decide +kernel
theorem dX0_findFarWay_90 : decode cX0_findFarWay 90 = .ok (.iload 4, 2) := by decide +kernel
theorem dX0_findFarWay_92 : decode cX0_findFarWay 92 = .ok (.iaload, 1) := by decide +kernel
theorem dX0_findFarWay_93 : decode cX0_findFarWay 93 = .ok (.invokestatic 65, 3) := by decide +kernel
theorem dX0_findFarWay_96 : decode cX0_findFarWay 96 = .ok (.istore_n 3, 1) := by decide +kernel
theorem dX0_findFarWay_97 : decode cX0_findFarWay 97 = .ok (.aload_n 0, 1) := by decide +kernel
theorem dX0_findFarWay_98 : decode cX0_findFarWay 98 = .ok (.getfield 42, 3) := by decide +kernel
theorem dX0_findFarWay_101 : decode cX0_findFarWay 101 = .ok (.iload 4, 2) := by decide +kernel
theorem dX0_findFarWay_103 : decode cX0_findFarWay 103 = .ok (.iaload, 1) := by decide +kernel
theorem dX0_findFarWay_104 : decode cX0_findFarWay 104 = .ok (.iload 5, 2) := by decide +kernel
theorem dX0_findFarWay_106 : decode cX0_findFarWay 106 = .ok (.iadd, 1) := by decide +kernel
theorem dX0_findFarWay_107 : decode cX0_findFarWay 107 = .ok (.istore_n 2, 1) := by decide +kernel
theorem dX0_findFarWay_108 : decode cX0_findFarWay 108 = .ok (.iinc 4 1, 3) := by decide +kernel
theorem dX0_findFarWay_111 : decode cX0_findFarWay 111 = .ok (.goto (-103), 3) := by decide +kernel
theorem dX0_findFarWay_114 : decode cX0_findFarWay 114 = .ok (.iload_n 3, 1) := by decide +kernel
theorem dX0_findFarWay_115 : decode cX0_findFarWay 115 = .ok (.ifCond .ge 14, 3) := by decide +kernel
theorem dX0_findFarWay_118 : decode cX0_findFarWay 118 = .ok (.aload_n 0, 1) := by decide +kernel
theorem dX0_findFarWay_119 : decode cX0_findFarWay 119 = .ok (.iload_n 1, 1) := by decide +kernel
theorem dX0_findFarWay_120 : decode cX0_findFarWay 120 = .ok (.iconst (-1), 1) := by decide +kernel
theorem dX0_findFarWay_121 : decode cX0_findFarWay 121 = .ok (.iconst (-1), 1) := by decide +kernel
theorem dX0_findFarWay_122 : decode cX0_findFarWay 122 = .ok (.iconst (-1), 1) := by decide +kernel
theorem dX0_findFarWay_123 : decode cX0_findFarWay 123 = .ok (.invokevirtual 120, 3) := by decide +kernel
theorem dX0_findFarWay_126 : decode cX0_findFarWay 126 = .ok (.goto 17, 3) := by decide +kernel
theorem dX0_findFarWay_129 : decode cX0_findFarWay 129 = .ok (.aload_n 0, 1) := by decide +kernel
theorem dX0_findFarWay_130 : decode cX0_findFarWay 130 = .ok (.iload_n 1, 1) := by decide +kernel
theorem dX0_findFarWay_131 : decode cX0_findFarWay 131 = .ok (.iload_n 2, 1) := by decide +kernel
theorem dX0_findFarWay_132 : decode cX0_findFarWay 132 = .ok (.iload_n 3, 1) := by decide +kernel
theorem dX0_findFarWay_133 : decode cX0_findFarWay 133 = .ok (.bipush 16, 2) := by decide +kernel
theorem dX0_findFarWay_135 : decode cX0_findFarWay 135 = .ok (.irem, 1) := by decide +kernel
theorem dX0_findFarWay_136 : decode cX0_findFarWay 136 = .ok (.iload_n 3, 1) := by decide +kernel
theorem dX0_findFarWay_137 : decode cX0_findFarWay 137 = .ok (.bipush 16, 2) := by decide +kernel
theorem dX0_findFarWay_139 : decode cX0_findFarWay 139 = .ok (.idiv, 1) := by decide +kernel
theorem dX0_findFarWay_140 : decode cX0_findFarWay 140 = .ok (.invokevirtual 120, 3) := by decide +kernel
theorem dX0_findFarWay_143 : decode cX0_findFarWay 143 = .ok (.return_, 1) := by decide +kernel
theorem dX0_portToll_0 : decode cX0_portToll 0 = .ok (.iconst 0, 1) := by decide +kernel
theorem dX0_portToll_1 : decode cX0_portToll 1 = .ok (.istore_n 3, 1) := by decide +kernel
theorem dX0_portToll_2 : decode cX0_portToll 2 = .ok (.iload_n 3, 1) := by decide +kernel
theorem dX0_portToll_3 : decode cX0_portToll 3 = .ok (.aload_n 0, 1) := by decide +kernel
theorem dX0_portToll_4 : decode cX0_portToll 4 = .ok (.getfield 18, 3) := by decide +kernel
theorem dX0_portToll_7 : decode cX0_portToll 7 = .ok (.iload_n 1, 1) := by decide +kernel
theorem dX0_portToll_8 : decode cX0_portToll 8 = .ok (.iaload, 1) := by decide +kernel
theorem dX0_portToll_9 : decode cX0_portToll 9 = .ok (.if_icmp .ge 42, 3) := by decide +kernel
theorem dX0_portToll_12 : decode cX0_portToll 12 = .ok (.aload_n 0, 1) := by decide +kernel
theorem dX0_portToll_13 : decode cX0_portToll 13 = .ok (.getfield 23, 3) := by decide +kernel
theorem dX0_portToll_16 : decode cX0_portToll 16 = .ok (.iload_n 1, 1) := by decide +kernel
theorem dX0_portToll_17 : decode cX0_portToll 17 = .ok (.aaload, 1) := by decide +kernel
theorem dX0_portToll_18 : decode cX0_portToll 18 = .ok (.iload_n 3, 1) := by decide +kernel
theorem dX0_portToll_19 : decode cX0_portToll 19 = .ok (.iaload, 1) := by decide +kernel
theorem dX0_portToll_20 : decode cX0_portToll 20 = .ok (.istore 4, 2) := by decide +kernel
theorem dX0_portToll_22 : decode cX0_portToll 22 = .ok (.iload 4, 2) := by decide +kernel
theorem dX0_portToll_24 : decode cX0_portToll 24 = .ok (.invokestatic 88, 3) := by decide +kernel
theorem dX0_portToll_27 : decode cX0_portToll 27 = .ok (.ifCond .ge 18, 3) := by decide +kernel
theorem dX0_portToll_30 : decode cX0_portToll 30 = .ok (.iload 4, 2) := by decide +kernel
theorem dX0_portToll_32 : decode cX0_portToll 32 = .ok (.invokestatic 91, 3) := by decide +kernel
theorem dX0_portToll_35 : decode cX0_portToll 35 = .ok (.iload_n 2, 1) := by decide +kernel
theorem dX0_portToll_36 : decode cX0_portToll 36 = .ok (.if_icmp .ne 9, 3) := by decide +kernel
theorem dX0_portToll_39 : decode cX0_portToll 39 = .ok (.iload 4, 2) := by decide +kernel
theorem dX0_portToll_41 : decode cX0_portToll 41 = .ok (.invokestatic 94, 3) := by decide +kernel
theorem dX0_portToll_44 : decode cX0_portToll 44 = .ok (.ireturn, 1) := by decide +kernel
theorem dX0_portToll_45 : decode cX0_portToll 45 = .ok (.iinc 3 1, 3) := by decide +kernel
theorem dX0_portToll_48 : decode cX0_portToll 48 = .ok (.goto (-46), 3) := by decide +kernel
theorem dX0_portToll_51 : decode cX0_portToll 51 = .ok (.iconst 0, 1) := by decide +kernel
theorem dX0_portToll_52 : decode cX0_portToll 52 = .ok (.ireturn, 1) := by decide +kernel
theorem dX0_tellsOfFriend_0 : decode cX0_tellsOfFriend 0 = .ok (.iconst 0, 1) := by decide +kernel
theorem dX0_tellsOfFriend_1 : decode cX0_tellsOfFriend 1 = .ok (.istore 4, 2) := by decide +kernel
theorem dX0_tellsOfFriend_3 : decode cX0_tellsOfFriend 3 = .ok (.iload 4, 2) := by decide +kernel
theorem dX0_tellsOfFriend_5 : decode cX0_tellsOfFriend 5 = .ok (.aload_n 0, 1) := by decide +kernel
theorem dX0_tellsOfFriend_6 : decode cX0_tellsOfFriend 6 = .ok (.getfield 18, 3) := by decide +kernel
theorem dX0_tellsOfFriend_9 : decode cX0_tellsOfFriend 9 = .ok (.iload_n 1, 1) := by decide +kernel
theorem dX0_tellsOfFriend_10 : decode cX0_tellsOfFriend 10 = .ok (.iaload, 1) := by decide +kernel
theorem dX0_tellsOfFriend_11 : decode cX0_tellsOfFriend 11 = .ok (.if_icmp .ge 43, 3) := by decide +kernel
theorem dX0_tellsOfFriend_14 : decode cX0_tellsOfFriend 14 = .ok (.aload_n 0, 1) := by decide +kernel
theorem dX0_tellsOfFriend_15 : decode cX0_tellsOfFriend 15 = .ok (.getfield 23, 3) := by decide +kernel
theorem dX0_tellsOfFriend_18 : decode cX0_tellsOfFriend 18 = .ok (.iload_n 1, 1) := by decide +kernel
theorem dX0_tellsOfFriend_19 : decode cX0_tellsOfFriend 19 = .ok (.aaload, 1) := by decide +kernel
theorem dX0_tellsOfFriend_20 : decode cX0_tellsOfFriend 20 = .ok (.iload 4, 2) := by decide +kernel
theorem dX0_tellsOfFriend_22 : decode cX0_tellsOfFriend 22 = .ok (.iaload, 1) := by decide +kernel
theorem dX0_tellsOfFriend_23 : decode cX0_tellsOfFriend 23 = .ok (.invokestatic 88, 3) := by decide +kernel
theorem dX0_tellsOfFriend_26 : decode cX0_tellsOfFriend 26 = .ok (.iload_n 2, 1) := by decide +kernel
theorem dX0_tellsOfFriend_27 : decode cX0_tellsOfFriend 27 = .ok (.if_icmp .ne 21, 3) := by decide +kernel
theorem dX0_tellsOfFriend_30 : decode cX0_tellsOfFriend 30 = .ok (.aload_n 0, 1) := by decide +kernel
theorem dX0_tellsOfFriend_31 : decode cX0_tellsOfFriend 31 = .ok (.getfield 23, 3) := by decide +kernel
theorem dX0_tellsOfFriend_34 : decode cX0_tellsOfFriend 34 = .ok (.iload_n 1, 1) := by decide +kernel
theorem dX0_tellsOfFriend_35 : decode cX0_tellsOfFriend 35 = .ok (.aaload, 1) := by decide +kernel
theorem dX0_tellsOfFriend_36 : decode cX0_tellsOfFriend 36 = .ok (.iload 4, 2) := by decide +kernel
theorem dX0_tellsOfFriend_38 : decode cX0_tellsOfFriend 38 = .ok (.iaload, 1) := by decide +kernel
theorem dX0_tellsOfFriend_39 : decode cX0_tellsOfFriend 39 = .ok (.invokestatic 91, 3) := by decide +kernel
theorem dX0_tellsOfFriend_42 : decode cX0_tellsOfFriend 42 = .ok (.iload_n 3, 1) := by decide +kernel
theorem dX0_tellsOfFriend_43 : decode cX0_tellsOfFriend 43 = .ok (.if_icmp .ne 5, 3) := by decide +kernel
theorem dX0_tellsOfFriend_46 : decode cX0_tellsOfFriend 46 = .ok (.iconst 1, 1) := by decide +kernel
theorem dX0_tellsOfFriend_47 : decode cX0_tellsOfFriend 47 = .ok (.ireturn, 1) := by decide +kernel
theorem dX0_tellsOfFriend_48 : decode cX0_tellsOfFriend 48 = .ok (.iinc 4 1, 3) := by decide +kernel
theorem dX0_tellsOfFriend_51 : decode cX0_tellsOfFriend 51 = .ok (.goto (-48), 3) := by decide +kernel
theorem dX0_tellsOfFriend_54 : decode cX0_tellsOfFriend 54 = .ok (.iconst 0, 1) := by decide +kernel
theorem dX0_tellsOfFriend_55 : decode cX0_tellsOfFriend 55 = .ok (.ireturn, 1) := by decide +kernel
theorem dX0_findDistances_0 : decode cX0_findDistances 0 = .ok (.iconst 0, 1) := by decide +kernel
theorem dX0_findDistances_1 : decode cX0_findDistances 1 = .ok (.istore_n 1, 1) := by decide +kernel
theorem dX0_findDistances_2 : decode cX0_findDistances 2 = .ok (.iload_n 1, 1) := by decide +kernel
theorem dX0_findDistances_3 : decode cX0_findDistances 3 = .ok (.bipush 16, 2) := by decide +kernel
theorem dX0_findDistances_5 : decode cX0_findDistances 5 = .ok (.if_icmp .ge 31, 3) := by decide +kernel
theorem dX0_findDistances_8 : decode cX0_findDistances 8 = .ok (.aload_n 0, 1) := by decide +kernel
theorem dX0_findDistances_9 : decode cX0_findDistances 9 = .ok (.getfield 42, 3) := by decide +kernel
theorem dX0_findDistances_12 : decode cX0_findDistances 12 = .ok (.iload_n 1, 1) := by decide +kernel
theorem dX0_findDistances_13 : decode cX0_findDistances 13 = .ok (.ldc 128, 2) := by decide +kernel
theorem dX0_findDistances_15 : decode cX0_findDistances 15 = .ok (.iastore, 1) := by decide +kernel
theorem dX0_findDistances_16 : decode cX0_findDistances 16 = .ok (.aload_n 0, 1) := by decide +kernel
theorem dX0_findDistances_17 : decode cX0_findDistances 17 = .ok (.getfield 45, 3) := by decide +kernel
theorem dX0_findDistances_20 : decode cX0_findDistances 20 = .ok (.iload_n 1, 1) := by decide +kernel
theorem dX0_findDistances_21 : decode cX0_findDistances 21 = .ok (.iconst 0, 1) := by decide +kernel
theorem dX0_findDistances_22 : decode cX0_findDistances 22 = .ok (.bastore, 1) := by decide +kernel
theorem dX0_findDistances_23 : decode cX0_findDistances 23 = .ok (.aload_n 0, 1) := by decide +kernel
theorem dX0_findDistances_24 : decode cX0_findDistances 24 = .ok (.getfield 49, 3) := by decide +kernel
theorem dX0_findDistances_27 : decode cX0_findDistances 27 = .ok (.iload_n 1, 1) := by decide +kernel
theorem dX0_findDistances_28 : decode cX0_findDistances 28 = .ok (.iconst (-1), 1) := by decide +kernel
theorem dX0_findDistances_29 : decode cX0_findDistances 29 = .ok (.iastore, 1) := by decide +kernel
theorem dX0_findDistances_30 : decode cX0_findDistances 30 = .ok (.iinc 1 1, 3) := by decide +kernel
theorem dX0_findDistances_33 : decode cX0_findDistances 33 = .ok (.goto (-31), 3) := by decide +kernel
theorem dX0_findDistances_36 : decode cX0_findDistances 36 = .ok (.aload_n 0, 1) := by decide +kernel
theorem dX0_findDistances_37 : decode cX0_findDistances 37 = .ok (.getfield 42, 3) := by decide +kernel
theorem dX0_findDistances_40 : decode cX0_findDistances 40 = .ok (.aload_n 0, 1) := by decide +kernel
theorem dX0_findDistances_41 : decode cX0_findDistances 41 = .ok (.getfield 52, 3) := by decide +kernel
theorem dX0_findDistances_44 : decode cX0_findDistances 44 = .ok (.iconst 0, 1) := by decide +kernel
theorem dX0_findDistances_45 : decode cX0_findDistances 45 = .ok (.iastore, 1) := by decide +kernel
theorem dX0_findDistances_46 : decode cX0_findDistances 46 = .ok (.iconst 0, 1) := by decide +kernel
theorem dX0_findDistances_47 : decode cX0_findDistances 47 = .ok (.istore_n 1, 1) := by decide +kernel
theorem dX0_findDistances_48 : decode cX0_findDistances 48 = .ok (.iload_n 1, 1) := by decide +kernel
theorem dX0_findDistances_49 : decode cX0_findDistances 49 = .ok (.bipush 16, 2) := by decide +kernel
theorem dX0_findDistances_51 : decode cX0_findDistances 51 = .ok (.if_icmp .ge 88, 3) := by decide +kernel
theorem dX0_findDistances_54 : decode cX0_findDistances 54 = .ok (.iconst (-1), 1) := by decide +kernel
theorem dX0_findDistances_55 : decode cX0_findDistances 55 = .ok (.istore_n 2, 1) := by decide +kernel
theorem dX0_findDistances_56 : decode cX0_findDistances 56 = .ok (.iconst 0, 1) := by decide +kernel
theorem dX0_findDistances_57 : decode cX0_findDistances 57 = .ok (.istore_n 3, 1) := by decide +kernel
theorem dX0_findDistances_58 : decode cX0_findDistances 58 = .ok (.iload_n 3, 1) := by decide +kernel
theorem dX0_findDistances_59 : decode cX0_findDistances 59 = .ok (.bipush 16, 2) := by decide +kernel
theorem dX0_findDistances_61 : decode cX0_findDistances 61 = .ok (.if_icmp .ge 53, 3) := by decide +kernel
theorem dX0_findDistances_64 : decode cX0_findDistances 64 = .ok (.aload_n 0, 1) := by decide +kernel
theorem dX0_findDistances_65 : decode cX0_findDistances 65 = .ok (.getfield 45, 3) := by decide +kernel
theorem dX0_findDistances_68 : decode cX0_findDistances 68 = .ok (.iload_n 3, 1) := by decide +kernel
theorem dX0_findDistances_69 : decode cX0_findDistances 69 = .ok (.baload, 1) := by decide +kernel
theorem dX0_findDistances_70 : decode cX0_findDistances 70 = .ok (.ifCond .ne 38, 3) := by decide +kernel
theorem dX0_findDistances_73 : decode cX0_findDistances 73 = .ok (.aload_n 0, 1) := by decide +kernel
theorem dX0_findDistances_74 : decode cX0_findDistances 74 = .ok (.getfield 42, 3) := by decide +kernel
theorem dX0_findDistances_77 : decode cX0_findDistances 77 = .ok (.iload_n 3, 1) := by decide +kernel
theorem dX0_findDistances_78 : decode cX0_findDistances 78 = .ok (.iaload, 1) := by decide +kernel
theorem dX0_findDistances_79 : decode cX0_findDistances 79 = .ok (.ldc 128, 2) := by decide +kernel
theorem dX0_findDistances_81 : decode cX0_findDistances 81 = .ok (.if_icmp .ne 6, 3) := by decide +kernel
theorem dX0_findDistances_84 : decode cX0_findDistances 84 = .ok (.goto 24, 3) := by decide +kernel
theorem dX0_findDistances_87 : decode cX0_findDistances 87 = .ok (.iload_n 2, 1) := by decide +kernel
theorem dX0_findDistances_88 : decode cX0_findDistances 88 = .ok (.ifCond .lt 18, 3) := by decide +kernel
theorem dX0_findDistances_91 : decode cX0_findDistances 91 = .ok (.aload_n 0, 1) := by decide +kernel
theorem dX0_findDistances_92 : decode cX0_findDistances 92 = .ok (.getfield 42, 3) := by decide +kernel
theorem dX0_findDistances_95 : decode cX0_findDistances 95 = .ok (.iload_n 3, 1) := by decide +kernel
theorem dX0_findDistances_96 : decode cX0_findDistances 96 = .ok (.iaload, 1) := by decide +kernel
theorem dX0_findDistances_97 : decode cX0_findDistances 97 = .ok (.aload_n 0, 1) := by decide +kernel
theorem dX0_findDistances_98 : decode cX0_findDistances 98 = .ok (.getfield 42, 3) := by decide +kernel
theorem dX0_findDistances_101 : decode cX0_findDistances 101 = .ok (.iload_n 2, 1) := by decide +kernel
theorem dX0_findDistances_102 : decode cX0_findDistances 102 = .ok (.iaload, 1) := by decide +kernel
theorem dX0_findDistances_103 : decode cX0_findDistances 103 = .ok (.if_icmp .ge 5, 3) := by decide +kernel
theorem dX0_findDistances_106 : decode cX0_findDistances 106 = .ok (.iload_n 3, 1) := by decide +kernel
theorem dX0_findDistances_107 : decode cX0_findDistances 107 = .ok (.istore_n 2, 1) := by decide +kernel
theorem dX0_findDistances_108 : decode cX0_findDistances 108 = .ok (.iinc 3 1, 3) := by decide +kernel
theorem dX0_findDistances_111 : decode cX0_findDistances 111 = .ok (.goto (-53), 3) := by decide +kernel
theorem dX0_findDistances_114 : decode cX0_findDistances 114 = .ok (.iload_n 2, 1) := by decide +kernel
theorem dX0_findDistances_115 : decode cX0_findDistances 115 = .ok (.ifCond .ge 6, 3) := by decide +kernel
theorem dX0_findDistances_118 : decode cX0_findDistances 118 = .ok (.goto 21, 3) := by decide +kernel
theorem dX0_findDistances_121 : decode cX0_findDistances 121 = .ok (.aload_n 0, 1) := by decide +kernel
theorem dX0_findDistances_122 : decode cX0_findDistances 122 = .ok (.getfield 45, 3) := by decide +kernel
theorem dX0_findDistances_125 : decode cX0_findDistances 125 = .ok (.iload_n 2, 1) := by decide +kernel
theorem dX0_findDistances_126 : decode cX0_findDistances 126 = .ok (.iconst 1, 1) := by decide +kernel
theorem dX0_findDistances_127 : decode cX0_findDistances 127 = .ok (.bastore, 1) := by decide +kernel
theorem dX0_findDistances_128 : decode cX0_findDistances 128 = .ok (.aload_n 0, 1) := by decide +kernel
theorem dX0_findDistances_129 : decode cX0_findDistances 129 = .ok (.iload_n 2, 1) := by decide +kernel
theorem dX0_findDistances_130 : decode cX0_findDistances 130 = .ok (.invokevirtual 132, 3) := by decide +kernel
theorem dX0_findDistances_133 : decode cX0_findDistances 133 = .ok (.iinc 1 1, 3) := by decide +kernel
theorem dX0_findDistances_136 : decode cX0_findDistances 136 = .ok (.goto (-88), 3) := by decide +kernel
theorem dX0_findDistances_139 : decode cX0_findDistances 139 = .ok (.return_, 1) := by decide +kernel
theorem dX0_goOnFrom_0 : decode cX0_goOnFrom 0 = .ok (.iconst 0, 1) := by decide +kernel
theorem dX0_goOnFrom_1 : decode cX0_goOnFrom 1 = .ok (.istore_n 2, 1) := by decide +kernel
theorem dX0_goOnFrom_2 : decode cX0_goOnFrom 2 = .ok (.iload_n 2, 1) := by decide +kernel
theorem dX0_goOnFrom_3 : decode cX0_goOnFrom 3 = .ok (.aload_n 0, 1) := by decide +kernel
theorem dX0_goOnFrom_4 : decode cX0_goOnFrom 4 = .ok (.getfield 18, 3) := by decide +kernel
theorem dX0_goOnFrom_7 : decode cX0_goOnFrom 7 = .ok (.iload_n 1, 1) := by decide +kernel
theorem dX0_goOnFrom_8 : decode cX0_goOnFrom 8 = .ok (.iaload, 1) := by decide +kernel
theorem dX0_goOnFrom_9 : decode cX0_goOnFrom 9 = .ok (.if_icmp .ge 164, 3) := by decide +kernel
theorem dX0_goOnFrom_12 : decode cX0_goOnFrom 12 = .ok (.aload_n 0, 1) := by decide +kernel
theorem dX0_goOnFrom_13 : decode cX0_goOnFrom 13 = .ok (.getfield 23, 3) := by decide +kernel
theorem dX0_goOnFrom_16 : decode cX0_goOnFrom 16 = .ok (.iload_n 1, 1) := by decide +kernel
theorem dX0_goOnFrom_17 : decode cX0_goOnFrom 17 = .ok (.aaload, 1) := by decide +kernel
theorem dX0_goOnFrom_18 : decode cX0_goOnFrom 18 = .ok (.iload_n 2, 1) := by decide +kernel
theorem dX0_goOnFrom_19 : decode cX0_goOnFrom 19 = .ok (.iaload, 1) := by decide +kernel
theorem dX0_goOnFrom_20 : decode cX0_goOnFrom 20 = .ok (.istore_n 3, 1) := by decide +kernel
theorem dX0_goOnFrom_21 : decode cX0_goOnFrom 21 = .ok (.iload_n 3, 1) := by decide +kernel
theorem dX0_goOnFrom_22 : decode cX0_goOnFrom 22 = .ok (.invokestatic 88, 3) := by decide +kernel
theorem dX0_goOnFrom_25 : decode cX0_goOnFrom 25 = .ok (.istore 4, 2) := by decide +kernel
theorem dX0_goOnFrom_27 : decode cX0_goOnFrom 27 = .ok (.iload_n 3, 1) := by decide +kernel
theorem dX0_goOnFrom_28 : decode cX0_goOnFrom 28 = .ok (.invokestatic 91, 3) := by decide +kernel
theorem dX0_goOnFrom_31 : decode cX0_goOnFrom 31 = .ok (.istore 5, 2) := by decide +kernel
theorem dX0_goOnFrom_33 : decode cX0_goOnFrom 33 = .ok (.iload 4, 2) := by decide +kernel
theorem dX0_goOnFrom_35 : decode cX0_goOnFrom 35 = .ok (.ifCond .lt 132, 3) := by decide +kernel
theorem dX0_goOnFrom_38 : decode cX0_goOnFrom 38 = .ok (.iload 4, 2) := by decide +kernel
theorem dX0_goOnFrom_40 : decode cX0_goOnFrom 40 = .ok (.bipush 16, 2) := by decide +kernel
theorem dX0_goOnFrom_42 : decode cX0_goOnFrom 42 = .ok (.if_icmp .ge 125, 3) := by decide +kernel
theorem dX0_goOnFrom_45 : decode cX0_goOnFrom 45 = .ok (.aload_n 0, 1) := by decide +kernel
theorem dX0_goOnFrom_46 : decode cX0_goOnFrom 46 = .ok (.getfield 45, 3) := by decide +kernel
theorem dX0_goOnFrom_49 : decode cX0_goOnFrom 49 = .ok (.iload 4, 2) := by decide +kernel
theorem dX0_goOnFrom_51 : decode cX0_goOnFrom 51 = .ok (.baload, 1) := by decide +kernel
theorem dX0_goOnFrom_52 : decode cX0_goOnFrom 52 = .ok (.ifCond .ne 115, 3) := by decide +kernel
theorem dX0_goOnFrom_55 : decode cX0_goOnFrom 55 = .ok (.aload_n 0, 1) := by decide +kernel
theorem dX0_goOnFrom_56 : decode cX0_goOnFrom 56 = .ok (.iload 4, 2) := by decide +kernel
theorem dX0_goOnFrom_58 : decode cX0_goOnFrom 58 = .ok (.iload_n 1, 1) := by decide +kernel
theorem dX0_goOnFrom_59 : decode cX0_goOnFrom 59 = .ok (.iload 5, 2) := by decide +kernel
theorem dX0_goOnFrom_61 : decode cX0_goOnFrom 61 = .ok (.invokevirtual 135, 3) := by decide +kernel
theorem dX0_goOnFrom_64 : decode cX0_goOnFrom 64 = .ok (.ifCond .ne 6, 3) := by decide +kernel
theorem dX0_goOnFrom_67 : decode cX0_goOnFrom 67 = .ok (.goto 100, 3) := by decide +kernel
theorem dX0_goOnFrom_70 : decode cX0_goOnFrom 70 = .ok (.aload_n 0, 1) := by decide +kernel
theorem dX0_goOnFrom_71 : decode cX0_goOnFrom 71 = .ok (.getfield 42, 3) := by decide +kernel
theorem dX0_goOnFrom_74 : decode cX0_goOnFrom 74 = .ok (.iload_n 1, 1) := by decide +kernel
theorem dX0_goOnFrom_75 : decode cX0_goOnFrom 75 = .ok (.iaload, 1) := by decide +kernel
theorem dX0_goOnFrom_76 : decode cX0_goOnFrom 76 = .ok (.iload_n 3, 1) := by decide +kernel
theorem dX0_goOnFrom_77 : decode cX0_goOnFrom 77 = .ok (.invokestatic 94, 3) := by decide +kernel
theorem dX0_goOnFrom_80 : decode cX0_goOnFrom 80 = .ok (.iadd, 1) := by decide +kernel
theorem dX0_goOnFrom_81 : decode cX0_goOnFrom 81 = .ok (.istore 6, 2) := by decide +kernel
theorem dX0_goOnFrom_83 : decode cX0_goOnFrom 83 = .ok (.iload_n 1, 1) := by decide +kernel
theorem dX0_goOnFrom_84 : decode cX0_goOnFrom 84 = .ok (.aload_n 0, 1) := by decide +kernel
theorem dX0_goOnFrom_85 : decode cX0_goOnFrom 85 = .ok (.getfield 52, 3) := by decide +kernel
theorem dX0_goOnFrom_88 : decode cX0_goOnFrom 88 = .ok (.if_icmp .ne 14, 3) := by decide +kernel
theorem dX0_goOnFrom_91 : decode cX0_goOnFrom 91 = .ok (.iload 5, 2) := by decide +kernel
theorem dX0_goOnFrom_93 : decode cX0_goOnFrom 93 = .ok (.bipush 16, 2) := by decide +kernel
theorem dX0_goOnFrom_95 : decode cX0_goOnFrom 95 = .ok (.imul, 1) := by decide +kernel
theorem dX0_goOnFrom_96 : decode cX0_goOnFrom 96 = .ok (.iload 4, 2) := by decide +kernel
theorem dX0_goOnFrom_98 : decode cX0_goOnFrom 98 = .ok (.iadd, 1) := by decide +kernel
theorem dX0_goOnFrom_99 : decode cX0_goOnFrom 99 = .ok (.goto 9, 3) := by decide +kernel
theorem dX0_goOnFrom_102 : decode cX0_goOnFrom 102 = .ok (.aload_n 0, 1) := by decide +kernel
theorem dX0_goOnFrom_103 : decode cX0_goOnFrom 103 = .ok (.getfield 49, 3) := by decide +kernel
theorem dX0_goOnFrom_106 : decode cX0_goOnFrom 106 = .ok (.iload_n 1, 1) := by decide +kernel
theorem dX0_goOnFrom_107 : decode cX0_goOnFrom 107 = .ok (.iaload, 1) := by decide +kernel
theorem dX0_goOnFrom_108 : decode cX0_goOnFrom 108 = .ok (.istore 7, 2) := by decide +kernel
theorem dX0_goOnFrom_110 : decode cX0_goOnFrom 110 = .ok (.iload 6, 2) := by decide +kernel
theorem dX0_goOnFrom_112 : decode cX0_goOnFrom 112 = .ok (.aload_n 0, 1) := by decide +kernel
theorem dX0_goOnFrom_113 : decode cX0_goOnFrom 113 = .ok (.getfield 42, 3) := by decide +kernel
theorem dX0_goOnFrom_116 : decode cX0_goOnFrom 116 = .ok (.iload 4, 2) := by decide +kernel
theorem dX0_goOnFrom_118 : decode cX0_goOnFrom 118 = .ok (.iaload, 1) := by decide +kernel
theorem dX0_goOnFrom_119 : decode cX0_goOnFrom 119 = .ok (.if_icmp .gt 48, 3) := by decide +kernel
theorem dX0_goOnFrom_122 : decode cX0_goOnFrom 122 = .ok (.iload 6, 2) := by decide +kernel
theorem dX0_goOnFrom_124 : decode cX0_goOnFrom 124 = .ok (.aload_n 0, 1) := by decide +kernel
theorem dX0_goOnFrom_125 : decode cX0_goOnFrom 125 = .ok (.getfield 42, 3) := by decide +kernel
theorem dX0_goOnFrom_128 : decode cX0_goOnFrom 128 = .ok (.iload 4, 2) := by decide +kernel
theorem dX0_goOnFrom_130 : decode cX0_goOnFrom 130 = .ok (.iaload, 1) := by decide +kernel
theorem dX0_goOnFrom_131 : decode cX0_goOnFrom 131 = .ok (.if_icmp .ne 18, 3) := by decide +kernel
theorem dX0_goOnFrom_134 : decode cX0_goOnFrom 134 = .ok (.iload 7, 2) := by decide +kernel
theorem dX0_goOnFrom_136 : decode cX0_goOnFrom 136 = .ok (.aload_n 0, 1) := by decide +kernel
theorem dX0_goOnFrom_137 : decode cX0_goOnFrom 137 = .ok (.getfield 49, 3) := by decide +kernel
theorem dX0_goOnFrom_140 : decode cX0_goOnFrom 140 = .ok (.iload 4, 2) := by decide +kernel
theorem dX0_goOnFrom_142 : decode cX0_goOnFrom 142 = .ok (.iaload, 1) := by decide +kernel
theorem dX0_goOnFrom_143 : decode cX0_goOnFrom 143 = .ok (.if_icmp .lt 6, 3) := by decide +kernel
theorem dX0_goOnFrom_146 : decode cX0_goOnFrom 146 = .ok (.goto 21, 3) := by decide +kernel
theorem dX0_goOnFrom_149 : decode cX0_goOnFrom 149 = .ok (.aload_n 0, 1) := by decide +kernel
theorem dX0_goOnFrom_150 : decode cX0_goOnFrom 150 = .ok (.getfield 42, 3) := by decide +kernel
theorem dX0_goOnFrom_153 : decode cX0_goOnFrom 153 = .ok (.iload 4, 2) := by decide +kernel
theorem dX0_goOnFrom_155 : decode cX0_goOnFrom 155 = .ok (.iload 6, 2) := by decide +kernel
theorem dX0_goOnFrom_157 : decode cX0_goOnFrom 157 = .ok (.iastore, 1) := by decide +kernel
theorem dX0_goOnFrom_158 : decode cX0_goOnFrom 158 = .ok (.aload_n 0, 1) := by decide +kernel
theorem dX0_goOnFrom_159 : decode cX0_goOnFrom 159 = .ok (.getfield 49, 3) := by decide +kernel
theorem dX0_goOnFrom_162 : decode cX0_goOnFrom 162 = .ok (.iload 4, 2) := by decide +kernel
theorem dX0_goOnFrom_164 : decode cX0_goOnFrom 164 = .ok (.iload 7, 2) := by decide +kernel
theorem dX0_goOnFrom_166 : decode cX0_goOnFrom 166 = .ok (.iastore, 1) := by decide +kernel
theorem dX0_goOnFrom_167 : decode cX0_goOnFrom 167 = .ok (.iinc 2 1, 3) := by decide +kernel
theorem dX0_goOnFrom_170 : decode cX0_goOnFrom 170 = .ok (.goto (-168), 3) := by decide +kernel
theorem dX0_goOnFrom_173 : decode cX0_goOnFrom 173 = .ok (.return_, 1) := by decide +kernel
theorem dX1_init_0 : decode cX1_init 0 = .ok (.aload_n 0, 1) := by decide +kernel
theorem dX1_init_1 : decode cX1_init 1 = .ok (.invokespecial 3, 3) := by decide +kernel
theorem dX1_init_4 : decode cX1_init 4 = .ok (.aload_n 0, 1) := by decide +kernel
theorem dX1_init_5 : decode cX1_init 5 = .ok (.bipush 6, 2) := by decide +kernel
theorem dX1_init_7 : decode cX1_init 7 = .ok (.anewarray 9, 3) := by decide +kernel
theorem dX1_init_10 : decode cX1_init 10 = .ok (.putfield 11, 3) := by decide +kernel
theorem dX1_init_13 : decode cX1_init 13 = .ok (.aload_n 0, 1) := by decide +kernel
theorem dX1_init_14 : decode cX1_init 14 = .ok (.bipush 8, 2) := by decide +kernel
theorem dX1_init_16 : decode cX1_init 16 = .ok (.newarray .int, 2) := by decide +kernel
theorem dX1_init_18 : decode cX1_init 18 = .ok (.putfield 17, 3) := by decide +kernel
theorem dX1_init_21 : decode cX1_init 21 = .ok (.aload_n 0, 1) := by decide +kernel
theorem dX1_init_22 : decode cX1_init 22 = .ok (.iconst 4, 1) := by decide +kernel
theorem dX1_init_23 : decode cX1_init 23 = .ok (.anewarray 21, 3) := by decide +kernel
theorem dX1_init_26 : decode cX1_init 26 = .ok (.putfield 23, 3) := by decide +kernel
theorem dX1_init_29 : decode cX1_init 29 = .ok (.aload_n 0, 1) := by decide +kernel
theorem dX1_init_30 : decode cX1_init 30 = .ok (.iconst 4, 1) := by decide +kernel
theorem dX1_init_31 : decode cX1_init 31 = .ok (.iconst 3, 1) := by decide +kernel
theorem dX1_init_32 : decode cX1_init 32 = .ok (.multianewarray 27 2, 4) := by decide +kernel
theorem dX1_init_36 : decode cX1_init 36 = .ok (.putfield 29, 3) := by decide +kernel
theorem dX1_init_39 : decode cX1_init 39 = .ok (.aload_n 0, 1) := by decide +kernel
theorem dX1_init_40 : decode cX1_init 40 = .ok (.iconst 4, 1) := by decide +kernel
theorem dX1_init_41 : decode cX1_init 41 = .ok (.newarray .int, 2) := by decide +kernel
theorem dX1_init_43 : decode cX1_init 43 = .ok (.putfield 32, 3) := by decide +kernel
theorem dX1_init_46 : decode cX1_init 46 = .ok (.aload_n 0, 1) := by decide +kernel
theorem dX1_init_47 : decode cX1_init 47 = .ok (.iconst 4, 1) := by decide +kernel
theorem dX1_init_48 : decode cX1_init 48 = .ok (.newarray .int, 2) := by decide +kernel
theorem dX1_init_50 : decode cX1_init 50 = .ok (.putfield 35, 3) := by decide +kernel
theorem dX1_init_53 : decode cX1_init 53 = .ok (.aload_n 0, 1) := by decide +kernel
theorem dX1_init_54 : decode cX1_init 54 = .ok (.iload_n 1, 1) := by decide +kernel
theorem dX1_init_55 : decode cX1_init 55 = .ok (.putfield 38, 3) := by decide +kernel
theorem dX1_init_58 : decode cX1_init 58 = .ok (.aload_n 0, 1) := by decide +kernel
theorem dX1_init_59 : decode cX1_init 59 = .ok (.iload_n 2, 1) := by decide +kernel
theorem dX1_init_60 : decode cX1_init 60 = .ok (.putfield 42, 3) := by decide +kernel
theorem dX1_init_63 : decode cX1_init 63 = .ok (.iconst 0, 1) := by decide +kernel
theorem dX1_init_64 : decode cX1_init 64 = .ok (.istore_n 3, 1) := by decide +kernel
theorem dX1_init_65 : decode cX1_init 65 = .ok (.iload_n 3, 1) := by decide +kernel
theorem dX1_init_66 : decode cX1_init 66 = .ok (.iconst 4, 1) := by decide +kernel
theorem dX1_init_67 : decode cX1_init 67 = .ok (.if_icmp .ge 22, 3) := by decide +kernel
theorem dX1_init_70 : decode cX1_init 70 = .ok (.aload_n 0, 1) := by decide +kernel
theorem dX1_init_71 : decode cX1_init 71 = .ok (.getfield 23, 3) := by decide +kernel
theorem dX1_init_74 : decode cX1_init 74 = .ok (.iload_n 3, 1) := by decide +kernel
theorem dX1_init_75 : decode cX1_init 75 = .ok (.new 21, 3) := by decide +kernel
theorem dX1_init_78 : decode cX1_init 78 = .ok (.dup, 1) := by decide +kernel
theorem dX1_init_79 : decode cX1_init 79 = .ok (.invokespecial 46, 3) := by decide +kernel
theorem dX1_init_82 : decode cX1_init 82 = .ok (.aastore, 1) := by decide +kernel
theorem dX1_init_83 : decode cX1_init 83 = .ok (.iinc 3 1, 3) := by decide +kernel
theorem dX1_init_86 : decode cX1_init 86 = .ok (.goto (-21), 3) := by decide +kernel
theorem dX1_init_89 : decode cX1_init 89 = .ok (.aload_n 0, 1) := by decide +kernel
theorem dX1_init_90 : decode cX1_init 90 = .ok (.iload_n 2, 1) := by decide +kernel
theorem dX1_init_91 : decode cX1_init 91 = .ok (.ifCond .eq 14, 3) := by decide +kernel
theorem dX1_init_94 : decode cX1_init 94 = .ok (.new 47, 3) := by decide +kernel
theorem dX1_init_97 : decode cX1_init 97 = .ok (.dup, 1) := by decide +kernel
theorem dX1_init_98 : decode cX1_init 98 = .ok (.iload_n 1, 1) := by decide +kernel
theorem dX1_init_99 : decode cX1_init 99 = .ok (.invokespecial 49, 3) := by decide +kernel
theorem dX1_init_102 : decode cX1_init 102 = .ok (.goto 4, 3) := by decide +kernel
theorem dX1_init_105 : decode cX1_init 105 = .ok (.aconst_null, 1) := by decide +kernel
theorem dX1_init_106 : decode cX1_init 106 = .ok (.putfield 52, 3) := by decide +kernel
theorem dX1_init_109 : decode cX1_init 109 = .ok (.aload_n 0, 1) := by decide +kernel
theorem dX1_init_110 : decode cX1_init 110 = .ok (.iload_n 2, 1) := by decide +kernel
theorem dX1_init_111 : decode cX1_init 111 = .ok (.ifCond .eq 7, 3) := by decide +kernel
theorem dX1_init_114 : decode cX1_init 114 = .ok (.iconst 0, 1) := by decide +kernel
theorem dX1_init_115 : decode cX1_init 115 = .ok (.goto 5, 3) := by decide +kernel
theorem dX1_init_118 : decode cX1_init 118 = .ok (.bipush 6, 2) := by decide +kernel
theorem dX1_init_120 : decode cX1_init 120 = .ok (.anewarray 56, 3) := by decide +kernel
theorem dX1_init_123 : decode cX1_init 123 = .ok (.putfield 58, 3) := by decide +kernel
theorem dX1_init_126 : decode cX1_init 126 = .ok (.iconst 0, 1) := by decide +kernel
theorem dX1_init_127 : decode cX1_init 127 = .ok (.istore_n 3, 1) := by decide +kernel
theorem dX1_init_128 : decode cX1_init 128 = .ok (.iload_n 3, 1) := by decide +kernel
theorem dX1_init_129 : decode cX1_init 129 = .ok (.aload_n 0, 1) := by decide +kernel
theorem dX1_init_130 : decode cX1_init 130 = .ok (.getfield 58, 3) := by decide +kernel
theorem dX1_init_133 : decode cX1_init 133 = .ok (.arraylength, 1) := by decide +kernel
theorem dX1_init_134 : decode cX1_init 134 = .ok (.if_icmp .ge 22, 3) := by decide +kernel
theorem dX1_init_137 : decode cX1_init 137 = .ok (.aload_n 0, 1) := by decide +kernel
theorem dX1_init_138 : decode cX1_init 138 = .ok (.getfield 58, 3) := by decide +kernel
theorem dX1_init_141 : decode cX1_init 141 = .ok (.iload_n 3, 1) := by decide +kernel
theorem dX1_init_142 : decode cX1_init 142 = .ok (.new 56, 3) := by decide +kernel
theorem dX1_init_145 : decode cX1_init 145 = .ok (.dup, 1) := by decide +kernel
theorem dX1_init_146 : decode cX1_init 146 = .ok (.invokespecial 62, 3) := by decide +kernel
theorem dX1_init_149 : decode cX1_init 149 = .ok (.aastore, 1) := by decide +kernel
theorem dX1_init_150 : decode cX1_init 150 = .ok (.iinc 3 1, 3) := by decide +kernel
theorem dX1_init_153 : decode cX1_init 153 = .ok (.goto (-25), 3) := by decide +kernel
theorem dX1_init_156 : decode cX1_init 156 = .ok (.return_, 1) := by decide +kernel
theorem dX1_nextNumber_0 : decode cX1_nextNumber 0 = .ok (.aload_n 0, 1) := by decide +kernel
theorem dX1_nextNumber_1 : decode cX1_nextNumber 1 = .ok (.getfield 17, 3) := by decide +kernel
theorem dX1_nextNumber_4 : decode cX1_nextNumber 4 = .ok (.iconst 2, 1) := by decide +kernel
theorem dX1_nextNumber_5 : decode cX1_nextNumber 5 = .ok (.dup2, 1) := by decide +kernel
theorem dX1_nextNumber_6 : decode cX1_nextNumber 6 = .ok (.iaload, 1) := by decide +kernel
theorem dX1_nextNumber_7 : decode cX1_nextNumber 7 = .ok (.iconst 1, 1) := by decide +kernel
theorem dX1_nextNumber_8 : decode cX1_nextNumber 8 = .ok (.iadd, 1) := by decide +kernel
theorem dX1_nextNumber_9 : decode cX1_nextNumber 9 = .ok (.iastore, 1) := by decide +kernel
theorem dX1_nextNumber_10 : decode cX1_nextNumber 10 = .ok (.aload_n 0, 1) := by decide +kernel
theorem dX1_nextNumber_11 : decode cX1_nextNumber 11 = .ok (.getfield 17, 3) := by decide +kernel
theorem dX1_nextNumber_14 : decode cX1_nextNumber 14 = .ok (.iconst 2, 1) := by decide +kernel
theorem dX1_nextNumber_15 : decode cX1_nextNumber 15 = .ok (.iaload, 1) := by decide +kernel
theorem dX1_nextNumber_16 : decode cX1_nextNumber 16 = .ok (.iconst 1, 1) := by decide +kernel
theorem dX1_nextNumber_17 : decode cX1_nextNumber 17 = .ok (.isub, 1) := by decide +kernel
theorem dX1_nextNumber_18 : decode cX1_nextNumber 18 = .ok (.ireturn, 1) := by decide +kernel
theorem dX1_portOn_0 : decode cX1_portOn 0 = .ok (.iconst 0, 1) := by decide +kernel
theorem dX1_portOn_1 : decode cX1_portOn 1 = .ok (.istore_n 2, 1) := by decide +kernel
theorem dX1_portOn_2 : decode cX1_portOn 2 = .ok (.iload_n 2, 1) := by decide +kernel
theorem dX1_portOn_3 : decode cX1_portOn 3 = .ok (.aload_n 0, 1) := by decide +kernel
theorem dX1_portOn_4 : decode cX1_portOn 4 = .ok (.getfield 63, 3) := by decide +kernel
theorem dX1_portOn_7 : decode cX1_portOn 7 = .ok (.if_icmp .ge 32, 3) := by decide +kernel
theorem dX1_portOn_10 : decode cX1_portOn 10 = .ok (.aload_n 0, 1) := by decide +kernel
theorem dX1_portOn_11 : decode cX1_portOn 11 = .ok (.getfield 11, 3) := by decide +kernel
theorem dX1_portOn_14 : decode cX1_portOn 14 = .ok (.iload_n 2, 1) := by decide +kernel
theorem dX1_portOn_15 : decode cX1_portOn 15 = .ok (.aaload, 1) := by decide +kernel
theorem dX1_portOn_16 : decode cX1_portOn 16 = .ok (.getfield 66, 3) := by decide +kernel
theorem dX1_portOn_19 : decode cX1_portOn 19 = .ok (.getfield 70, 3) := by decide +kernel
theorem dX1_portOn_22 : decode cX1_portOn 22 = .ok (.iload_n 1, 1) := by decide +kernel
theorem dX1_portOn_23 : decode cX1_portOn 23 = .ok (.if_icmp .ne 10, 3) := by decide +kernel
theorem dX1_portOn_26 : decode cX1_portOn 26 = .ok (.aload_n 0, 1) := by decide +kernel
theorem dX1_portOn_27 : decode cX1_portOn 27 = .ok (.getfield 11, 3) := by decide +kernel
theorem dX1_portOn_30 : decode cX1_portOn 30 = .ok (.iload_n 2, 1) := by decide +kernel
theorem dX1_portOn_31 : decode cX1_portOn 31 = .ok (.aaload, 1) := by decide +kernel
theorem dX1_portOn_32 : decode cX1_portOn 32 = .ok (.areturn, 1) := by decide +kernel
theorem dX1_portOn_33 : decode cX1_portOn 33 = .ok (.iinc 2 1, 3) := by decide +kernel
theorem dX1_portOn_36 : decode cX1_portOn 36 = .ok (.goto (-34), 3) := by decide +kernel
theorem dX1_portOn_39 : decode cX1_portOn 39 = .ok (.aconst_null, 1) := by decide +kernel
theorem dX1_portOn_40 : decode cX1_portOn 40 = .ok (.areturn, 1) := by decide +kernel
theorem dX1_hasAddress_0 : decode cX1_hasAddress 0 = .ok (.iconst 0, 1) := by decide +kernel
theorem dX1_hasAddress_1 : decode cX1_hasAddress 1 = .ok (.istore_n 2, 1) := by decide +kernel
theorem dX1_hasAddress_2 : decode cX1_hasAddress 2 = .ok (.iload_n 2, 1) := by decide +kernel
theorem dX1_hasAddress_3 : decode cX1_hasAddress 3 = .ok (.aload_n 0, 1) := by decide +kernel
theorem dX1_hasAddress_4 : decode cX1_hasAddress 4 = .ok (.getfield 63, 3) := by decide +kernel
theorem dX1_hasAddress_7 : decode cX1_hasAddress 7 = .ok (.if_icmp .ge 24, 3) := by decide +kernel
theorem dX1_hasAddress_10 : decode cX1_hasAddress 10 = .ok (.aload_n 0, 1) := by decide +kernel
theorem dX1_hasAddress_11 : decode cX1_hasAddress 11 = .ok (.getfield 11, 3) := by decide +kernel
theorem dX1_hasAddress_14 : decode cX1_hasAddress 14 = .ok (.iload_n 2, 1) := by decide +kernel
theorem dX1_hasAddress_15 : decode cX1_hasAddress 15 = .ok (.aaload, 1) := by decide +kernel
theorem dX1_hasAddress_16 : decode cX1_hasAddress 16 = .ok (.getfield 73, 3) := by decide +kernel
theorem dX1_hasAddress_19 : decode cX1_hasAddress 19 = .ok (.iload_n 1, 1) := by decide +kernel
theorem dX1_hasAddress_20 : decode cX1_hasAddress 20 = .ok (.if_icmp .ne 5, 3) := by decide +kernel
theorem dX1_hasAddress_23 : decode cX1_hasAddress 23 = .ok (.iconst 1, 1) := by decide +kernel
theorem dX1_hasAddress_24 : decode cX1_hasAddress 24 = .ok (.ireturn, 1) := by decide +kernel
theorem dX1_hasAddress_25 : decode cX1_hasAddress 25 = .ok (.iinc 2 1, 3) := by decide +kernel
theorem dX1_hasAddress_28 : decode cX1_hasAddress 28 = .ok (.goto (-26), 3) := by decide +kernel
theorem dX1_hasAddress_31 : decode cX1_hasAddress 31 = .ok (.iconst 0, 1) := by decide +kernel
theorem dX1_hasAddress_32 : decode cX1_hasAddress 32 = .ok (.ireturn, 1) := by decide +kernel
theorem dX1_netsUp_0 : decode cX1_netsUp 0 = .ok (.iconst 0, 1) := by decide +kernel
theorem dX1_netsUp_1 : decode cX1_netsUp 1 = .ok (.istore_n 1, 1) := by decide +kernel
theorem dX1_netsUp_2 : decode cX1_netsUp 2 = .ok (.iconst 0, 1) := by decide +kernel
theorem dX1_netsUp_3 : decode cX1_netsUp 3 = .ok (.istore_n 2, 1) := by decide +kernel
theorem dX1_netsUp_4 : decode cX1_netsUp 4 = .ok (.iload_n 2, 1) := by decide +kernel
theorem dX1_netsUp_5 : decode cX1_netsUp 5 = .ok (.aload_n 0, 1) := by decide +kernel
theorem dX1_netsUp_6 : decode cX1_netsUp 6 = .ok (.getfield 63, 3) := by decide +kernel
theorem dX1_netsUp_9 : decode cX1_netsUp 9 = .ok (.if_icmp .ge 41, 3) := by decide +kernel
theorem dX1_netsUp_12 : decode cX1_netsUp 12 = .ok (.aload_n 0, 1) := by decide +kernel
theorem dX1_netsUp_13 : decode cX1_netsUp 13 = .ok (.getfield 11, 3) := by decide +kernel
theorem dX1_netsUp_16 : decode cX1_netsUp 16 = .ok (.iload_n 2, 1) := by decide +kernel
theorem dX1_netsUp_17 : decode cX1_netsUp 17 = .ok (.aaload, 1) := by decide +kernel
theorem dX1_netsUp_18 : decode cX1_netsUp 18 = .ok (.getfield 66, 3) := by decide +kernel
theorem dX1_netsUp_21 : decode cX1_netsUp 21 = .ok (.getfield 76, 3) := by decide +kernel
theorem dX1_netsUp_24 : decode cX1_netsUp 24 = .ok (.ifCond .eq 20, 3) := by decide +kernel
theorem dX1_netsUp_27 : decode cX1_netsUp 27 = .ok (.iload_n 1, 1) := by decide +kernel
theorem dX1_netsUp_28 : decode cX1_netsUp 28 = .ok (.iconst 1, 1) := by decide +kernel
theorem dX1_netsUp_29 : decode cX1_netsUp 29 = .ok (.aload_n 0, 1) := by decide +kernel
theorem dX1_netsUp_30 : decode cX1_netsUp 30 = .ok (.getfield 11, 3) := by decide +kernel
theorem dX1_netsUp_33 : decode cX1_netsUp 33 = .ok (.iload_n 2, 1) := by decide +kernel
theorem dX1_netsUp_34 : decode cX1_netsUp 34 = .ok (.aaload, 1) := by decide +kernel
theorem dX1_netsUp_35 : decode cX1_netsUp 35 = .ok (.getfield 66, 3) := by decide +kernel
theorem dX1_netsUp_38 : decode cX1_netsUp 38 = .ok (.getfield 70, 3) := by decide +kernel
theorem dX1_netsUp_41 : decode cX1_netsUp 41 = .ok (.ishl, 1) := by decide +kernel
theorem dX1_netsUp_42 : decode cX1_netsUp 42 = .ok (.ior, 1) := by decide +kernel
theorem dX1_netsUp_43 : decode cX1_netsUp 43 = .ok (.istore_n 1, 1) := by decide +kernel
theorem dX1_netsUp_44 : decode cX1_netsUp 44 = .ok (.iinc 2 1, 3) := by decide +kernel
theorem dX1_netsUp_47 : decode cX1_netsUp 47 = .ok (.goto (-43), 3) := by decide +kernel
theorem dX1_netsUp_50 : decode cX1_netsUp 50 = .ok (.iload_n 1, 1) := by decide +kernel
theorem dX1_netsUp_51 : decode cX1_netsUp 51 = .ok (.ireturn, 1) := by decide +kernel
theorem dX1_partialFor_0 : decode cX1_partialFor 0 = .ok (.iconst 0, 1) := by decide +kernel
theorem dX1_partialFor_1 : decode cX1_partialFor 1 = .ok (.istore_n 2, 1) := by decide +kernel
theorem dX1_partialFor_2 : decode cX1_partialFor 2 = .ok (.iload_n 2, 1) := by decide +kernel
theorem dX1_partialFor_3 : decode cX1_partialFor 3 = .ok (.iconst 4, 1) := by decide +kernel
theorem dX1_partialFor_4 : decode cX1_partialFor 4 = .ok (.if_icmp .ge 74, 3) := by decide +kernel
theorem dX1_partialFor_7 : decode cX1_partialFor 7 = .ok (.aload_n 0, 1) := by decide +kernel
theorem dX1_partialFor_8 : decode cX1_partialFor 8 = .ok (.getfield 23, 3) := by decide +kernel
theorem dX1_partialFor_11 : decode cX1_partialFor 11 = .ok (.iload_n 2, 1) := by decide +kernel
theorem dX1_partialFor_12 : decode cX1_partialFor 12 = .ok (.aaload, 1) := by decide +kernel
theorem dX1_partialFor_13 : decode cX1_partialFor 13 = .ok (.astore_n 3, 1) := by decide +kernel
theorem dX1_partialFor_14 : decode cX1_partialFor 14 = .ok (.aload_n 0, 1) := by decide +kernel
theorem dX1_partialFor_15 : decode cX1_partialFor 15 = .ok (.getfield 35, 3) := by decide +kernel
theorem dX1_partialFor_18 : decode cX1_partialFor 18 = .ok (.iload_n 2, 1) := by decide +kernel
theorem dX1_partialFor_19 : decode cX1_partialFor 19 = .ok (.iaload, 1) := by decide +kernel
theorem dX1_partialFor_20 : decode cX1_partialFor 20 = .ok (.ifCond .eq 52, 3) := by decide +kernel
theorem dX1_partialFor_23 : decode cX1_partialFor 23 = .ok (.aload_n 3, 1) := by decide +kernel
theorem dX1_partialFor_24 : decode cX1_partialFor 24 = .ok (.getfield 79, 3) := by decide +kernel
theorem dX1_partialFor_27 : decode cX1_partialFor 27 = .ok (.aload_n 1, 1) := by decide +kernel
theorem dX1_partialFor_28 : decode cX1_partialFor 28 = .ok (.getfield 79, 3) := by decide +kernel
theorem dX1_partialFor_31 : decode cX1_partialFor 31 = .ok (.if_icmp .ne 41, 3) := by decide +kernel
theorem dX1_partialFor_34 : decode cX1_partialFor 34 = .ok (.aload_n 3, 1) := by decide +kernel
theorem dX1_partialFor_35 : decode cX1_partialFor 35 = .ok (.getfield 82, 3) := by decide +kernel
theorem dX1_partialFor_38 : decode cX1_partialFor 38 = .ok (.aload_n 1, 1) := by decide +kernel
theorem dX1_partialFor_39 : decode cX1_partialFor 39 = .ok (.getfield 82, 3) := by decide +kernel
theorem dX1_partialFor_42 : decode cX1_partialFor 42 = .ok (.if_icmp .eq 6, 3) := by decide +kernel
theorem dX1_partialFor_45 : decode cX1_partialFor 45 = .ok (.goto 27, 3) := by decide +kernel
theorem dX1_partialFor_48 : decode cX1_partialFor 48 = .ok (.aload_n 3, 1) := by decide +kernel
theorem dX1_partialFor_49 : decode cX1_partialFor 49 = .ok (.getfield 85, 3) := by decide +kernel
theorem dX1_partialFor_52 : decode cX1_partialFor 52 = .ok (.aload_n 1, 1) := by decide +kernel
theorem dX1_partialFor_53 : decode cX1_partialFor 53 = .ok (.getfield 85, 3) := by decide +kernel
theorem dX1_partialFor_56 : decode cX1_partialFor 56 = .ok (.if_icmp .ne 16, 3) := by decide +kernel
theorem dX1_partialFor_59 : decode cX1_partialFor 59 = .ok (.aload_n 3, 1) := by decide +kernel
theorem dX1_partialFor_60 : decode cX1_partialFor 60 = .ok (.getfield 88, 3) := by decide +kernel
theorem dX1_partialFor_63 : decode cX1_partialFor 63 = .ok (.aload_n 1, 1) := by decide +kernel
theorem dX1_partialFor_64 : decode cX1_partialFor 64 = .ok (.getfield 88, 3) := by decide +kernel
theorem dX1_partialFor_67 : decode cX1_partialFor 67 = .ok (.if_icmp .ne 5, 3) := by decide +kernel
theorem dX1_partialFor_70 : decode cX1_partialFor 70 = .ok (.iload_n 2, 1) := by decide +kernel
theorem dX1_partialFor_71 : decode cX1_partialFor 71 = .ok (.ireturn, 1) := by decide +kernel
theorem dX1_partialFor_72 : decode cX1_partialFor 72 = .ok (.iinc 2 1, 3) := by decide +kernel
theorem dX1_partialFor_75 : decode cX1_partialFor 75 = .ok (.goto (-73), 3) := by decide +kernel
theorem dX1_partialFor_78 : decode cX1_partialFor 78 = .ok (.iconst (-1), 1) := by decide +kernel
theorem dX1_partialFor_79 : decode cX1_partialFor 79 = .ok (.ireturn, 1) := by decide +kernel
theorem dX1_emptyPartial_0 : decode cX1_emptyPartial 0 = .ok (.iconst 0, 1) := by decide +kernel
theorem dX1_emptyPartial_1 : decode cX1_emptyPartial 1 = .ok (.istore_n 1, 1) := by decide +kernel
theorem dX1_emptyPartial_2 : decode cX1_emptyPartial 2 = .ok (.iload_n 1, 1) := by decide +kernel
theorem dX1_emptyPartial_3 : decode cX1_emptyPartial 3 = .ok (.iconst 4, 1) := by decide +kernel
theorem dX1_emptyPartial_4 : decode cX1_emptyPartial 4 = .ok (.if_icmp .ge 20, 3) := by decide +kernel
theorem dX1_emptyPartial_7 : decode cX1_emptyPartial 7 = .ok (.aload_n 0, 1) := by decide +kernel
theorem dX1_emptyPartial_8 : decode cX1_emptyPartial 8 = .ok (.getfield 35, 3) := by decide +kernel
theorem dX1_emptyPartial_11 : decode cX1_emptyPartial 11 = .ok (.iload_n 1, 1) := by decide +kernel
theorem dX1_emptyPartial_12 : decode cX1_emptyPartial 12 = .ok (.iaload, 1) := by decide +kernel
theorem dX1_emptyPartial_13 : decode cX1_emptyPartial 13 = .ok (.ifCond .ne 5, 3) := by decide +kernel
theorem dX1_emptyPartial_16 : decode cX1_emptyPartial 16 = .ok (.iload_n 1, 1) := by decide +kernel
theorem dX1_emptyPartial_17 : decode cX1_emptyPartial 17 = .ok (.ireturn, 1) := by decide +kernel
theorem dX1_emptyPartial_18 : decode cX1_emptyPartial 18 = .ok (.iinc 1 1, 3) := by decide +kernel
theorem dX1_emptyPartial_21 : decode cX1_emptyPartial 21 = .ok (.goto (-19), 3) := by decide +kernel
theorem dX1_emptyPartial_24 : decode cX1_emptyPartial 24 = .ok (.iconst (-1), 1) := by decide +kernel
theorem dX1_emptyPartial_25 : decode cX1_emptyPartial 25 = .ok (.ireturn, 1) := by decide +kernel
theorem dX1_earliestPartial_0 : decode cX1_earliestPartial 0 = .ok (.iconst 0, 1) := by decide +kernel
theorem dX1_earliestPartial_1 : decode cX1_earliestPartial 1 = .ok (.istore_n 1, 1) := by decide +kernel
theorem dX1_earliestPartial_2 : decode cX1_earliestPartial 2 = .ok (.iconst 1, 1) := by decide +kernel
theorem dX1_earliestPartial_3 : decode cX1_earliestPartial 3 = .ok (.istore_n 2, 1) := by decide +kernel
theorem dX1_earliestPartial_4 : decode cX1_earliestPartial 4 = .ok (.iload_n 2, 1) := by decide +kernel
theorem dX1_earliestPartial_5 : decode cX1_earliestPartial 5 = .ok (.iconst 4, 1) := by decide +kernel
theorem dX1_earliestPartial_6 : decode cX1_earliestPartial 6 = .ok (.if_icmp .ge 26, 3) := by decide +kernel
theorem dX1_earliestPartial_9 : decode cX1_earliestPartial 9 = .ok (.aload_n 0, 1) := by decide +kernel
theorem dX1_earliestPartial_10 : decode cX1_earliestPartial 10 = .ok (.getfield 35, 3) := by decide +kernel
theorem dX1_earliestPartial_13 : decode cX1_earliestPartial 13 = .ok (.iload_n 2, 1) := by decide +kernel
theorem dX1_earliestPartial_14 : decode cX1_earliestPartial 14 = .ok (.iaload, 1) := by decide +kernel
theorem dX1_earliestPartial_15 : decode cX1_earliestPartial 15 = .ok (.aload_n 0, 1) := by decide +kernel
theorem dX1_earliestPartial_16 : decode cX1_earliestPartial 16 = .ok (.getfield 35, 3) := by decide +kernel
theorem dX1_earliestPartial_19 : decode cX1_earliestPartial 19 = .ok (.iload_n 1, 1) := by decide +kernel
theorem dX1_earliestPartial_20 : decode cX1_earliestPartial 20 = .ok (.iaload, 1) := by decide +kernel
theorem dX1_earliestPartial_21 : decode cX1_earliestPartial 21 = .ok (.if_icmp .ge 5, 3) := by decide +kernel
theorem dX1_earliestPartial_24 : decode cX1_earliestPartial 24 = .ok (.iload_n 2, 1) := by decide +kernel
theorem dX1_earliestPartial_25 : decode cX1_earliestPartial 25 = .ok (.istore_n 1, 1) := by decide +kernel
theorem dX1_earliestPartial_26 : decode cX1_earliestPartial 26 = .ok (.iinc 2 1, 3) := by decide +kernel
theorem dX1_earliestPartial_29 : decode cX1_earliestPartial 29 = .ok (.goto (-25), 3) := by decide +kernel
theorem dX1_earliestPartial_32 : decode cX1_earliestPartial 32 = .ok (.iload_n 1, 1) := by decide +kernel
theorem dX1_earliestPartial_33 : decode cX1_earliestPartial 33 = .ok (.ireturn, 1) := by decide +kernel
theorem dX1_beginPartial_0 : decode cX1_beginPartial 0 = .ok (.aload_n 0, 1) := by decide +kernel
theorem dX1_beginPartial_1 : decode cX1_beginPartial 1 = .ok (.getfield 23, 3) := by decide +kernel
theorem dX1_beginPartial_4 : decode cX1_beginPartial 4 = .ok (.iload_n 1, 1) := by decide +kernel
theorem dX1_beginPartial_5 : decode cX1_beginPartial 5 = .ok (.aaload, 1) := by decide +kernel
theorem dX1_beginPartial_6 : decode cX1_beginPartial 6 = .ok (.astore 4, 2) := by decide +kernel
theorem dX1_beginPartial_8 : decode cX1_beginPartial 8 = .ok (.aload 4, 2) := by decide +kernel
theorem dX1_beginPartial_10 : decode cX1_beginPartial 10 = .ok (.aload_n 2, 1) := by decide +kernel
theorem dX1_beginPartial_11 : decode cX1_beginPartial 11 = .ok (.iconst 0, 1) := by decide +kernel
theorem dX1_beginPartial_12 : decode cX1_beginPartial 12 = .ok (.iconst 0, 1) := by decide +kernel
theorem dX1_beginPartial_13 : decode cX1_beginPartial 13 = .ok (.invokevirtual 89, 3) := by decide +kernel
theorem dX1_beginPartial_16 : decode cX1_beginPartial 16 = .ok (.aload 4, 2) := by decide +kernel
theorem dX1_beginPartial_18 : decode cX1_beginPartial 18 = .ok (.iconst 0, 1) := by decide +kernel
theorem dX1_beginPartial_19 : decode cX1_beginPartial 19 = .ok (.putfield 93, 3) := by decide +kernel
theorem dX1_beginPartial_22 : decode cX1_beginPartial 22 = .ok (.aload 4, 2) := by decide +kernel
theorem dX1_beginPartial_24 : decode cX1_beginPartial 24 = .ok (.aload_n 2, 1) := by decide +kernel
theorem dX1_beginPartial_25 : decode cX1_beginPartial 25 = .ok (.getfield 96, 3) := by decide +kernel
theorem dX1_beginPartial_28 : decode cX1_beginPartial 28 = .ok (.putfield 99, 3) := by decide +kernel
theorem dX1_beginPartial_31 : decode cX1_beginPartial 31 = .ok (.iconst 0, 1) := by decide +kernel
theorem dX1_beginPartial_32 : decode cX1_beginPartial 32 = .ok (.istore 5, 2) := by decide +kernel
theorem dX1_beginPartial_34 : decode cX1_beginPartial 34 = .ok (.iload 5, 2) := by decide +kernel
theorem dX1_beginPartial_36 : decode cX1_beginPartial 36 = .ok (.iconst 3, 1) := by decide +kernel
theorem dX1_beginPartial_37 : decode cX1_beginPartial 37 = .ok (.if_icmp .ge 19, 3) := by decide +kernel
theorem dX1_beginPartial_40 : decode cX1_beginPartial 40 = .ok (.aload_n 0, 1) := by decide +kernel
theorem dX1_beginPartial_41 : decode cX1_beginPartial 41 = .ok (.getfield 29, 3) := by decide +kernel
theorem dX1_beginPartial_44 : decode cX1_beginPartial 44 = .ok (.iload_n 1, 1) := by decide +kernel
theorem dX1_beginPartial_45 : decode cX1_beginPartial 45 = .ok (.aaload, 1) := by decide +kernel
theorem dX1_beginPartial_46 : decode cX1_beginPartial 46 = .ok (.iload 5, 2) := by decide +kernel
theorem dX1_beginPartial_48 : decode cX1_beginPartial 48 = .ok (.lconst 0, 1) := by decide +kernel
theorem dX1_beginPartial_49 : decode cX1_beginPartial 49 = .ok (.lastore, 1) := by decide +kernel
theorem dX1_beginPartial_50 : decode cX1_beginPartial 50 = .ok (.iinc 5 1, 3) := by decide +kernel
theorem dX1_beginPartial_53 : decode cX1_beginPartial 53 = .ok (.goto (-19), 3) := by decide +kernel
theorem dX1_beginPartial_56 : decode cX1_beginPartial 56 = .ok (.aload_n 0, 1) := by decide +kernel
theorem dX1_beginPartial_57 : decode cX1_beginPartial 57 = .ok (.getfield 32, 3) := by decide +kernel
theorem dX1_beginPartial_60 : decode cX1_beginPartial 60 = .ok (.iload_n 1, 1) := by decide +kernel
theorem dX1_beginPartial_61 : decode cX1_beginPartial 61 = .ok (.iload_n 3, 1) := by decide +kernel
theorem dX1_beginPartial_62 : decode cX1_beginPartial 62 = .ok (.iastore, 1) := by decide +kernel
theorem dX1_beginPartial_63 : decode cX1_beginPartial 63 = .ok (.aload_n 0, 1) := by decide +kernel
theorem dX1_beginPartial_64 : decode cX1_beginPartial 64 = .ok (.dup, 1) := by decide +kernel
theorem dX1_beginPartial_65 : decode cX1_beginPartial 65 = .ok (.getfield 102, 3) := by decide +kernel
theorem dX1_beginPartial_68 : decode cX1_beginPartial 68 = .ok (.iconst 1, 1) := by decide +kernel
theorem dX1_beginPartial_69 : decode cX1_beginPartial 69 = .ok (.iadd, 1) := by decide +kernel
theorem dX1_beginPartial_70 : decode cX1_beginPartial 70 = .ok (.putfield 102, 3) := by decide +kernel
theorem dX1_beginPartial_73 : decode cX1_beginPartial 73 = .ok (.aload_n 0, 1) := by decide +kernel
theorem dX1_beginPartial_74 : decode cX1_beginPartial 74 = .ok (.getfield 35, 3) := by decide +kernel
theorem dX1_beginPartial_77 : decode cX1_beginPartial 77 = .ok (.iload_n 1, 1) := by decide +kernel
theorem dX1_beginPartial_78 : decode cX1_beginPartial 78 = .ok (.aload_n 0, 1) := by decide +kernel
theorem dX1_beginPartial_79 : decode cX1_beginPartial 79 = .ok (.getfield 102, 3) := by decide +kernel
theorem dX1_beginPartial_82 : decode cX1_beginPartial 82 = .ok (.iastore, 1) := by decide +kernel
theorem dX1_beginPartial_83 : decode cX1_beginPartial 83 = .ok (.return_, 1) := by decide +kernel
theorem dX1_addPiece_0 : decode cX1_addPiece 0 = .ok (.aload_n 0, 1) := by decide +kernel
theorem dX1_addPiece_1 : decode cX1_addPiece 1 = .ok (.getfield 23, 3) := by decide +kernel
theorem dX1_addPiece_4 : decode cX1_addPiece 4 = .ok (.iload_n 1, 1) := by decide +kernel
theorem dX1_addPiece_5 : decode cX1_addPiece 5 = .ok (.aaload, 1) := by decide +kernel
theorem dX1_addPiece_6 : decode cX1_addPiece 6 = .ok (.astore_n 3, 1) := by decide +kernel
theorem dX1_addPiece_7 : decode cX1_addPiece 7 = .ok (.aload_n 2, 1) := by decide +kernel
theorem dX1_addPiece_8 : decode cX1_addPiece 8 = .ok (.getfield 93, 3) := by decide +kernel
theorem dX1_addPiece_11 : decode cX1_addPiece 11 = .ok (.aload_n 2, 1) := by decide +kernel
theorem dX1_addPiece_12 : decode cX1_addPiece 12 = .ok (.getfield 99, 3) := by decide +kernel
theorem dX1_addPiece_15 : decode cX1_addPiece 15 = .ok (.iadd, 1) := by decide +kernel
theorem dX1_addPiece_16 : decode cX1_addPiece 16 = .ok (.aload_n 3, 1) := by decide +kernel
theorem dX1_addPiece_17 : decode cX1_addPiece 17 = .ok (.getfield 96, 3) := by decide +kernel
theorem dX1_addPiece_20 : decode cX1_addPiece 20 = .ok (.sipush 1480, 3) := by decide +kernel
theorem dX1_addPiece_23 : decode cX1_addPiece 23 = .ok (.invokestatic 105, 3) := by decide +kernel
theorem dX1_addPiece_26 : decode cX1_addPiece 26 = .ok (.invokestatic 105, 3) := by decide +kernel
theorem dX1_addPiece_29 : decode cX1_addPiece 29 = .ok (.istore 4, 2) := by decide +kernel
theorem dX1_addPiece_31 : decode cX1_addPiece 31 = .ok (.iconst 0, 1) := by decide +kernel
theorem dX1_addPiece_32 : decode cX1_addPiece 32 = .ok (.aload_n 2, 1) := by decide +kernel
theorem dX1_addPiece_33 : decode cX1_addPiece 33 = .ok (.getfield 93, 3) := by decide +kernel
theorem dX1_addPiece_36 : decode cX1_addPiece 36 = .ok (.invokestatic 111, 3) := by decide +kernel
theorem dX1_addPiece_39 : decode cX1_addPiece 39 = .ok (.istore 5, 2) := by decide +kernel
theorem dX1_addPiece_41 : decode cX1_addPiece 41 = .ok (.iload 5, 2) := by decide +kernel
theorem dX1_addPiece_43 : decode cX1_addPiece 43 = .ok (.iload 4, 2) := by decide +kernel
theorem dX1_addPiece_45 : decode cX1_addPiece 45 = .ok (.if_icmp .ge 96, 3) := by decide +kernel
theorem dX1_addPiece_48 : decode cX1_addPiece 48 = .ok (.iload 5, 2) := by decide +kernel
theorem dX1_addPiece_50 : decode cX1_addPiece 50 = .ok (.bipush 8, 2) := by decide +kernel
theorem dX1_addPiece_52 : decode cX1_addPiece 52 = .ok (.idiv, 1) := by decide +kernel
theorem dX1_addPiece_53 : decode cX1_addPiece 53 = .ok (.istore 6, 2) := by decide +kernel
theorem dX1_addPiece_55 : decode cX1_addPiece 55 = .ok (.aload_n 0, 1) := by decide +kernel
theorem dX1_addPiece_56 : decode cX1_addPiece 56 = .ok (.getfield 29, 3) := by decide +kernel
theorem dX1_addPiece_59 : decode cX1_addPiece 59 = .ok (.iload_n 1, 1) := by decide +kernel
theorem dX1_addPiece_60 : decode cX1_addPiece 60 = .ok (.aaload, 1) := by decide +kernel
theorem dX1_addPiece_61 : decode cX1_addPiece 61 = .ok (.iload 6, 2) := by decide +kernel
theorem dX1_addPiece_63 : decode cX1_addPiece 63 = .ok (.bipush 64, 2) := by decide +kernel
theorem dX1_addPiece_65 : decode cX1_addPiece 65 = .ok (.idiv, 1) := by decide +kernel
theorem dX1_addPiece_66 : decode cX1_addPiece 66 = .ok (.laload, 1) := by decide +kernel
theorem dX1_addPiece_67 : decode cX1_addPiece 67 = .ok (.iload 6, 2) := by decide +kernel
theorem dX1_addPiece_69 : decode cX1_addPiece 69 = .ok (.bipush 64, 2) := by decide +kernel
theorem dX1_addPiece_71 : decode cX1_addPiece 71 = .ok (.irem, 1) := by decide +kernel
theorem dX1_addPiece_72 : decode cX1_addPiece 72 = .ok (.lushr, 1) := by decide +kernel
theorem dX1_addPiece_73 : decode cX1_addPiece 73 = .ok (.lconst 1, 1) := by decide +kernel
theorem dX1_addPiece_74 : decode cX1_addPiece 74 = .ok (.land, 1) := by decide +kernel
theorem dX1_addPiece_75 : decode cX1_addPiece 75 = .ok (.lconst 0, 1) := by decide +kernel
theorem dX1_addPiece_76 : decode cX1_addPiece 76 = .ok (.lcmp, 1) := by decide +kernel
theorem dX1_addPiece_77 : decode cX1_addPiece 77 = .ok (.ifCond .eq 6, 3) := by decide +kernel
theorem dX1_addPiece_80 : decode cX1_addPiece 80 = .ok (.goto 55, 3) := by decide +kernel
theorem dX1_addPiece_83 : decode cX1_addPiece 83 = .ok (.aload_n 0, 1) := by decide +kernel
theorem dX1_addPiece_84 : decode cX1_addPiece 84 = .ok (.getfield 29, 3) := by decide +kernel
theorem dX1_addPiece_87 : decode cX1_addPiece 87 = .ok (.iload_n 1, 1) := by decide +kernel
theorem dX1_addPiece_88 : decode cX1_addPiece 88 = .ok (.aaload, 1) := by decide +kernel
theorem dX1_addPiece_89 : decode cX1_addPiece 89 = .ok (.iload 6, 2) := by decide +kernel
theorem dX1_addPiece_91 : decode cX1_addPiece 91 = .ok (.bipush 64, 2) := by decide +kernel
theorem dX1_addPiece_93 : decode cX1_addPiece 93 = .ok (.idiv, 1) := by decide +kernel
theorem dX1_addPiece_94 : decode cX1_addPiece 94 = .ok (.dup2, 1) := by decide +kernel
theorem dX1_addPiece_95 : decode cX1_addPiece 95 = .ok (.laload, 1) := by decide +kernel
theorem dX1_addPiece_96 : decode cX1_addPiece 96 = .ok (.lconst 1, 1) := by decide +kernel
theorem dX1_addPiece_97 : decode cX1_addPiece 97 = .ok (.iload 6, 2) := by decide +kernel
theorem dX1_addPiece_99 : decode cX1_addPiece 99 = .ok (.bipush 64, 2) := by decide +kernel
theorem dX1_addPiece_101 : decode cX1_addPiece 101 = .ok (.irem, 1) := by decide +kernel
theorem dX1_addPiece_102 : decode cX1_addPiece 102 = .ok (.lshl, 1) := by decide +kernel
theorem dX1_addPiece_103 : decode cX1_addPiece 103 = .ok (.lor, 1) := by decide +kernel
theorem dX1_addPiece_104 : decode cX1_addPiece 104 = .ok (.lastore, 1) := by decide +kernel
theorem dX1_addPiece_105 : decode cX1_addPiece 105 = .ok (.aload_n 2, 1) := by decide +kernel
theorem dX1_addPiece_106 : decode cX1_addPiece 106 = .ok (.getfield 114, 3) := by decide +kernel
theorem dX1_addPiece_109 : decode cX1_addPiece 109 = .ok (.iload 5, 2) := by decide +kernel
theorem dX1_addPiece_111 : decode cX1_addPiece 111 = .ok (.aload_n 2, 1) := by decide +kernel
theorem dX1_addPiece_112 : decode cX1_addPiece 112 = .ok (.getfield 93, 3) := by decide +kernel
theorem dX1_addPiece_115 : decode cX1_addPiece 115 = .ok (.isub, 1) := by decide +kernel
theorem dX1_addPiece_116 : decode cX1_addPiece 116 = .ok (.aload_n 3, 1) := by decide +kernel
theorem dX1_addPiece_117 : decode cX1_addPiece 117 = .ok (.getfield 114, 3) := by decide +kernel
theorem dX1_addPiece_120 : decode cX1_addPiece 120 = .ok (.iload 5, 2) := by decide +kernel
theorem dX1_addPiece_122 : decode cX1_addPiece 122 = .ok (.bipush 8, 2) := by decide +kernel
theorem dX1_addPiece_124 : decode cX1_addPiece 124 = .ok (.iload 4, 2) := by decide +kernel
theorem dX1_addPiece_126 : decode cX1_addPiece 126 = .ok (.iload 5, 2) := by decide +kernel
theorem dX1_addPiece_128 : decode cX1_addPiece 128 = .ok (.isub, 1) := by decide +kernel
theorem dX1_addPiece_129 : decode cX1_addPiece 129 = .ok (.invokestatic 105, 3) := by decide +kernel
theorem dX1_addPiece_132 : decode cX1_addPiece 132 = .ok (.invokestatic 118, 3) := by decide +kernel
theorem dX1_addPiece_135 : decode cX1_addPiece 135 = .ok (.iinc 5 8, 3) := by decide +kernel
theorem dX1_addPiece_138 : decode cX1_addPiece 138 = .ok (.goto (-97), 3) := by decide +kernel
theorem dX1_addPiece_141 : decode cX1_addPiece 141 = .ok (.iconst 0, 1) := by decide +kernel
theorem dX1_addPiece_142 : decode cX1_addPiece 142 = .ok (.istore 5, 2) := by decide +kernel
theorem dX1_addPiece_144 : decode cX1_addPiece 144 = .ok (.iconst 0, 1) := by decide +kernel
theorem dX1_addPiece_145 : decode cX1_addPiece 145 = .ok (.istore 6, 2) := by decide +kernel
theorem dX1_addPiece_147 : decode cX1_addPiece 147 = .ok (.iload 6, 2) := by decide +kernel
theorem dX1_addPiece_149 : decode cX1_addPiece 149 = .ok (.iconst 3, 1) := by decide +kernel
theorem dX1_addPiece_150 : decode cX1_addPiece 150 = .ok (.if_icmp .ge 26, 3) := by decide +kernel
theorem dX1_addPiece_153 : decode cX1_addPiece 153 = .ok (.iload 5, 2) := by decide +kernel
theorem dX1_addPiece_155 : decode cX1_addPiece 155 = .ok (.aload_n 0, 1) := by decide +kernel
theorem dX1_addPiece_156 : decode cX1_addPiece 156 = .ok (.getfield 29, 3) := by decide +kernel
theorem dX1_addPiece_159 : decode cX1_addPiece 159 = .ok (.iload_n 1, 1) := by decide +kernel
theorem dX1_addPiece_160 : decode cX1_addPiece 160 = .ok (.aaload, 1) := by decide +kernel
theorem dX1_addPiece_161 : decode cX1_addPiece 161 = .ok (.iload 6, 2) := by decide +kernel
theorem dX1_addPiece_163 : decode cX1_addPiece 163 = .ok (.laload, 1) := by decide +kernel
theorem dX1_addPiece_164 : decode cX1_addPiece 164 = .ok (.invokestatic 124, 3) := by decide +kernel
theorem dX1_addPiece_167 : decode cX1_addPiece 167 = .ok (.iadd, 1) := by decide +kernel
theorem dX1_addPiece_168 : decode cX1_addPiece 168 = .ok (.istore 5, 2) := by decide +kernel
theorem dX1_addPiece_170 : decode cX1_addPiece 170 = .ok (.iinc 6 1, 3) := by decide +kernel
theorem dX1_addPiece_173 : decode cX1_addPiece 173 = .ok (.goto (-26), 3) := by decide +kernel
theorem dX1_addPiece_176 : decode cX1_addPiece 176 = .ok (.iload 5, 2) := by decide +kernel
theorem dX1_addPiece_178 : decode cX1_addPiece 178 = .ok (.bipush 8, 2) := by decide +kernel
theorem dX1_addPiece_180 : decode cX1_addPiece 180 = .ok (.imul, 1) := by decide +kernel
theorem dX1_addPiece_181 : decode cX1_addPiece 181 = .ok (.aload_n 3, 1) := by decide +kernel
theorem dX1_addPiece_182 : decode cX1_addPiece 182 = .ok (.getfield 96, 3) := by decide +kernel
theorem dX1_addPiece_185 : decode cX1_addPiece 185 = .ok (.if_icmp .lt 7, 3) := by decide +kernel
theorem dX1_addPiece_188 : decode cX1_addPiece 188 = .ok (.iconst 1, 1) := by decide +kernel
theorem dX1_addPiece_189 : decode cX1_addPiece 189 = .ok (.goto 4, 3) := by decide +kernel
theorem dX1_addPiece_192 : decode cX1_addPiece 192 = .ok (.iconst 0, 1) := by decide +kernel
theorem dX1_addPiece_193 : decode cX1_addPiece 193 = .ok (.ireturn, 1) := by decide +kernel
theorem dX1_unusedDoor_0 : decode cX1_unusedDoor 0 = .ok (.iconst 0, 1) := by decide +kernel
theorem dX1_unusedDoor_1 : decode cX1_unusedDoor 1 = .ok (.istore_n 1, 1) := by decide +kernel
theorem dX1_unusedDoor_2 : decode cX1_unusedDoor 2 = .ok (.iload_n 1, 1) := by decide +kernel
theorem dX1_unusedDoor_3 : decode cX1_unusedDoor 3 = .ok (.aload_n 0, 1) := by decide +kernel
theorem dX1_unusedDoor_4 : decode cX1_unusedDoor 4 = .ok (.getfield 58, 3) := by decide +kernel
theorem dX1_unusedDoor_7 : decode cX1_unusedDoor 7 = .ok (.arraylength, 1) := by decide +kernel
theorem dX1_unusedDoor_8 : decode cX1_unusedDoor 8 = .ok (.if_icmp .ge 23, 3) := by decide +kernel
theorem dX1_unusedDoor_11 : decode cX1_unusedDoor 11 = .ok (.aload_n 0, 1) := by decide +kernel
theorem dX1_unusedDoor_12 : decode cX1_unusedDoor 12 = .ok (.getfield 58, 3) := by decide +kernel
theorem dX1_unusedDoor_15 : decode cX1_unusedDoor 15 = .ok (.iload_n 1, 1) := by decide +kernel
theorem dX1_unusedDoor_16 : decode cX1_unusedDoor 16 = .ok (.aaload, 1) := by decide +kernel
theorem dX1_unusedDoor_17 : decode cX1_unusedDoor 17 = .ok (.getfield 130, 3) := by decide +kernel
theorem dX1_unusedDoor_20 : decode cX1_unusedDoor 20 = .ok (.ifCond .ne 5, 3) := by decide +kernel
theorem dX1_unusedDoor_23 : decode cX1_unusedDoor 23 = .ok (.iload_n 1, 1) := by decide +kernel
theorem dX1_unusedDoor_24 : decode cX1_unusedDoor 24 = .ok (.ireturn, 1) := by decide +kernel
theorem dX1_unusedDoor_25 : decode cX1_unusedDoor 25 = .ok (.iinc 1 1, 3) := by decide +kernel
theorem dX1_unusedDoor_28 : decode cX1_unusedDoor 28 = .ok (.goto (-26), 3) := by decide +kernel
theorem dX1_unusedDoor_31 : decode cX1_unusedDoor 31 = .ok (.iconst (-1), 1) := by decide +kernel
theorem dX1_unusedDoor_32 : decode cX1_unusedDoor 32 = .ok (.ireturn, 1) := by decide +kernel
theorem dX1_listenerAt_0 : decode cX1_listenerAt 0 = .ok (.iconst 0, 1) := by decide +kernel
theorem dX1_listenerAt_1 : decode cX1_listenerAt 1 = .ok (.istore_n 2, 1) := by decide +kernel
theorem dX1_listenerAt_2 : decode cX1_listenerAt 2 = .ok (.iload_n 2, 1) := by decide +kernel
theorem dX1_listenerAt_3 : decode cX1_listenerAt 3 = .ok (.aload_n 0, 1) := by decide +kernel
theorem dX1_listenerAt_4 : decode cX1_listenerAt 4 = .ok (.getfield 58, 3) := by decide +kernel
theorem dX1_listenerAt_7 : decode cX1_listenerAt 7 = .ok (.arraylength, 1) := by decide +kernel
theorem dX1_listenerAt_8 : decode cX1_listenerAt 8 = .ok (.if_icmp .ge 37, 3) := by decide +kernel
theorem dX1_listenerAt_11 : decode cX1_listenerAt 11 = .ok (.aload_n 0, 1) := by decide +kernel
theorem dX1_listenerAt_12 : decode cX1_listenerAt 12 = .ok (.getfield 58, 3) := by decide +kernel
theorem dX1_listenerAt_15 : decode cX1_listenerAt 15 = .ok (.iload_n 2, 1) := by decide +kernel
theorem dX1_listenerAt_16 : decode cX1_listenerAt 16 = .ok (.aaload, 1) := by decide +kernel
theorem dX1_listenerAt_17 : decode cX1_listenerAt 17 = .ok (.getfield 130, 3) := by decide +kernel
theorem dX1_listenerAt_20 : decode cX1_listenerAt 20 = .ok (.iconst 1, 1) := by decide +kernel
theorem dX1_listenerAt_21 : decode cX1_listenerAt 21 = .ok (.if_icmp .ne 18, 3) := by decide +kernel
theorem dX1_listenerAt_24 : decode cX1_listenerAt 24 = .ok (.aload_n 0, 1) := by decide +kernel
theorem dX1_listenerAt_25 : decode cX1_listenerAt 25 = .ok (.getfield 58, 3) := by decide +kernel
theorem dX1_listenerAt_28 : decode cX1_listenerAt 28 = .ok (.iload_n 2, 1) := by decide +kernel
theorem dX1_listenerAt_29 : decode cX1_listenerAt 29 = .ok (.aaload, 1) := by decide +kernel
theorem dX1_listenerAt_30 : decode cX1_listenerAt 30 = .ok (.getfield 133, 3) := by decide +kernel
theorem dX1_listenerAt_33 : decode cX1_listenerAt 33 = .ok (.iload_n 1, 1) := by decide +kernel
theorem dX1_listenerAt_34 : decode cX1_listenerAt 34 = .ok (.if_icmp .ne 5, 3) := by decide +kernel
theorem dX1_listenerAt_37 : decode cX1_listenerAt 37 = .ok (.iload_n 2, 1) := by decide +kernel
theorem dX1_listenerAt_38 : decode cX1_listenerAt 38 = .ok (.ireturn, 1) := by decide +kernel
theorem dX1_listenerAt_39 : decode cX1_listenerAt 39 = .ok (.iinc 2 1, 3) := by decide +kernel
theorem dX1_listenerAt_42 : decode cX1_listenerAt 42 = .ok (.goto (-40), 3) := by decide +kernel
theorem dX1_listenerAt_45 : decode cX1_listenerAt 45 = .ok (.iconst (-1), 1) := by decide +kernel
theorem dX1_listenerAt_46 : decode cX1_listenerAt 46 = .ok (.ireturn, 1) := by decide +kernel
theorem dX1_liveDoor_0 : decode cX1_liveDoor 0 = .ok (.iconst 0, 1) := by decide +kernel
theorem dX1_liveDoor_1 : decode cX1_liveDoor 1 = .ok (.istore 4, 2) := by decide +kernel
theorem dX1_liveDoor_3 : decode cX1_liveDoor 3 = .ok (.iload 4, 2) := by decide +kernel
theorem dX1_liveDoor_5 : decode cX1_liveDoor 5 = .ok (.aload_n 0, 1) := by decide +kernel
theorem dX1_liveDoor_6 : decode cX1_liveDoor 6 = .ok (.getfield 58, 3) := by decide +kernel
theorem dX1_liveDoor_9 : decode cX1_liveDoor 9 = .ok (.arraylength, 1) := by decide +kernel
theorem dX1_liveDoor_10 : decode cX1_liveDoor 10 = .ok (.if_icmp .ge 49, 3) := by decide +kernel
theorem dX1_liveDoor_13 : decode cX1_liveDoor 13 = .ok (.aload_n 0, 1) := by decide +kernel
theorem dX1_liveDoor_14 : decode cX1_liveDoor 14 = .ok (.getfield 58, 3) := by decide +kernel
theorem dX1_liveDoor_17 : decode cX1_liveDoor 17 = .ok (.iload 4, 2) := by decide +kernel
theorem dX1_liveDoor_19 : decode cX1_liveDoor 19 = .ok (.aaload, 1) := by decide +kernel
theorem dX1_liveDoor_20 : decode cX1_liveDoor 20 = .ok (.iload_n 1, 1) := by decide +kernel
theorem dX1_liveDoor_21 : decode cX1_liveDoor 21 = .ok (.iload_n 2, 1) := by decide +kernel
theorem dX1_liveDoor_22 : decode cX1_liveDoor 22 = .ok (.iload_n 3, 1) := by decide +kernel
theorem dX1_liveDoor_23 : decode cX1_liveDoor 23 = .ok (.invokevirtual 136, 3) := by decide +kernel
theorem dX1_liveDoor_26 : decode cX1_liveDoor 26 = .ok (.ifCond .eq 27, 3) := by decide +kernel
theorem dX1_liveDoor_29 : decode cX1_liveDoor 29 = .ok (.aload_n 0, 1) := by decide +kernel
theorem dX1_liveDoor_30 : decode cX1_liveDoor 30 = .ok (.getfield 58, 3) := by decide +kernel
theorem dX1_liveDoor_33 : decode cX1_liveDoor 33 = .ok (.iload 4, 2) := by decide +kernel
theorem dX1_liveDoor_35 : decode cX1_liveDoor 35 = .ok (.aaload, 1) := by decide +kernel
theorem dX1_liveDoor_36 : decode cX1_liveDoor 36 = .ok (.getfield 140, 3) := by decide +kernel
theorem dX1_liveDoor_39 : decode cX1_liveDoor 39 = .ok (.invokevirtual 144, 3) := by decide +kernel
theorem dX1_liveDoor_42 : decode cX1_liveDoor 42 = .ok (.ifCond .ne 11, 3) := by decide +kernel
theorem dX1_liveDoor_45 : decode cX1_liveDoor 45 = .ok (.aload_n 0, 1) := by decide +kernel
theorem dX1_liveDoor_46 : decode cX1_liveDoor 46 = .ok (.getfield 58, 3) := by decide +kernel
theorem dX1_liveDoor_49 : decode cX1_liveDoor 49 = .ok (.iload 4, 2) := by decide +kernel
theorem dX1_liveDoor_51 : decode cX1_liveDoor 51 = .ok (.aaload, 1) := by decide +kernel
theorem dX1_liveDoor_52 : decode cX1_liveDoor 52 = .ok (.areturn, 1) := by decide +kernel
theorem dX1_liveDoor_53 : decode cX1_liveDoor 53 = .ok (.iinc 4 1, 3) := by decide +kernel
theorem dX1_liveDoor_56 : decode cX1_liveDoor 56 = .ok (.goto (-53), 3) := by decide +kernel
theorem dX1_liveDoor_59 : decode cX1_liveDoor 59 = .ok (.aconst_null, 1) := by decide +kernel
theorem dX1_liveDoor_60 : decode cX1_liveDoor 60 = .ok (.areturn, 1) := by decide +kernel
theorem dX1_doorThrough_0 : decode cX1_doorThrough 0 = .ok (.iconst 0, 1) := by decide +kernel
theorem dX1_doorThrough_1 : decode cX1_doorThrough 1 = .ok (.istore_n 2, 1) := by decide +kernel
theorem dX1_doorThrough_2 : decode cX1_doorThrough 2 = .ok (.iconst 0, 1) := by decide +kernel
theorem dX1_doorThrough_3 : decode cX1_doorThrough 3 = .ok (.istore_n 3, 1) := by decide +kernel
theorem dX1_doorThrough_4 : decode cX1_doorThrough 4 = .ok (.iload_n 3, 1) := by decide +kernel
theorem dX1_doorThrough_5 : decode cX1_doorThrough 5 = .ok (.aload_n 0, 1) := by decide +kernel
theorem dX1_doorThrough_6 : decode cX1_doorThrough 6 = .ok (.getfield 58, 3) := by decide +kernel
theorem dX1_doorThrough_9 : decode cX1_doorThrough 9 = .ok (.arraylength, 1) := by decide +kernel
theorem dX1_doorThrough_10 : decode cX1_doorThrough 10 = .ok (.if_icmp .ge 50, 3) := by decide +kernel
theorem dX1_doorThrough_13 : decode cX1_doorThrough 13 = .ok (.aload_n 0, 1) := by decide +kernel
theorem dX1_doorThrough_14 : decode cX1_doorThrough 14 = .ok (.getfield 58, 3) := by decide +kernel
theorem dX1_doorThrough_17 : decode cX1_doorThrough 17 = .ok (.iload_n 3, 1) := by decide +kernel
theorem dX1_doorThrough_18 : decode cX1_doorThrough 18 = .ok (.aaload, 1) := by decide +kernel
theorem dX1_doorThrough_19 : decode cX1_doorThrough 19 = .ok (.astore 4, 2) := by decide +kernel
theorem dX1_doorThrough_21 : decode cX1_doorThrough 21 = .ok (.aload 4, 2) := by decide +kernel
theorem dX1_doorThrough_23 : decode cX1_doorThrough 23 = .ok (.getfield 130, 3) := by decide +kernel
theorem dX1_doorThrough_26 : decode cX1_doorThrough 26 = .ok (.iconst 2, 1) := by decide +kernel
theorem dX1_doorThrough_27 : decode cX1_doorThrough 27 = .ok (.if_icmp .ne 27, 3) := by decide +kernel
theorem dX1_doorThrough_30 : decode cX1_doorThrough 30 = .ok (.aload 4, 2) := by decide +kernel
theorem dX1_doorThrough_32 : decode cX1_doorThrough 32 = .ok (.getfield 150, 3) := by decide +kernel
theorem dX1_doorThrough_35 : decode cX1_doorThrough 35 = .ok (.iload_n 1, 1) := by decide +kernel
theorem dX1_doorThrough_36 : decode cX1_doorThrough 36 = .ok (.if_icmp .ne 18, 3) := by decide +kernel
theorem dX1_doorThrough_39 : decode cX1_doorThrough 39 = .ok (.aload 4, 2) := by decide +kernel
theorem dX1_doorThrough_41 : decode cX1_doorThrough 41 = .ok (.getfield 140, 3) := by decide +kernel
theorem dX1_doorThrough_44 : decode cX1_doorThrough 44 = .ok (.getfield 153, 3) := by decide +kernel
theorem dX1_doorThrough_47 : decode cX1_doorThrough 47 = .ok (.iconst 3, 1) := by decide +kernel
theorem dX1_doorThrough_48 : decode cX1_doorThrough 48 = .ok (.if_icmp .ne 6, 3) := by decide +kernel
theorem dX1_doorThrough_51 : decode cX1_doorThrough 51 = .ok (.iinc 2 1, 3) := by decide +kernel
theorem dX1_doorThrough_54 : decode cX1_doorThrough 54 = .ok (.iinc 3 1, 3) := by decide +kernel
theorem dX1_doorThrough_57 : decode cX1_doorThrough 57 = .ok (.goto (-53), 3) := by decide +kernel
theorem dX1_doorThrough_60 : decode cX1_doorThrough 60 = .ok (.aload_n 0, 1) := by decide +kernel
theorem dX1_doorThrough_61 : decode cX1_doorThrough 61 = .ok (.invokevirtual 156, 3) := by decide +kernel
theorem dX1_doorThrough_64 : decode cX1_doorThrough 64 = .ok (.istore_n 3, 1) := by decide +kernel
theorem dX1_doorThrough_65 : decode cX1_doorThrough 65 = .ok (.iload_n 3, 1) := by decide +kernel
theorem dX1_doorThrough_66 : decode cX1_doorThrough 66 = .ok (.ifCond .lt 16, 3) := by decide +kernel
theorem dX1_doorThrough_69 : decode cX1_doorThrough 69 = .ok (.iload_n 2, 1) := by decide +kernel
theorem dX1_doorThrough_70 : decode cX1_doorThrough 70 = .ok (.aload_n 0, 1) := by decide +kernel
theorem dX1_doorThrough_71 : decode cX1_doorThrough 71 = .ok (.getfield 58, 3) := by decide +kernel
theorem dX1_doorThrough_74 : decode cX1_doorThrough 74 = .ok (.iload_n 1, 1) := by decide +kernel
theorem dX1_doorThrough_75 : decode cX1_doorThrough 75 = .ok (.aaload, 1) := by decide +kernel
theorem dX1_doorThrough_76 : decode cX1_doorThrough 76 = .ok (.getfield 160, 3) := by decide +kernel
theorem dX1_doorThrough_79 : decode cX1_doorThrough 79 = .ok (.if_icmp .lt 7, 3) := by decide +kernel
theorem dX1_doorThrough_82 : decode cX1_doorThrough 82 = .ok (.aconst_null, 1) := by decide +kernel
theorem dX1_doorThrough_83 : decode cX1_doorThrough 83 = .ok (.goto 9, 3) := by decide +kernel
theorem dX1_doorThrough_86 : decode cX1_doorThrough 86 = .ok (.aload_n 0, 1) := by decide +kernel
theorem dX1_doorThrough_87 : decode cX1_doorThrough 87 = .ok (.getfield 58, 3) := by decide +kernel
theorem dX1_doorThrough_90 : decode cX1_doorThrough 90 = .ok (.iload_n 3, 1) := by decide +kernel
theorem dX1_doorThrough_91 : decode cX1_doorThrough 91 = .ok (.aaload, 1) := by decide +kernel
theorem dX1_doorThrough_92 : decode cX1_doorThrough 92 = .ok (.areturn, 1) := by decide +kernel
theorem dX2_init_0 : decode cX2_init 0 = .ok (.aload_n 0, 1) := by decide +kernel
theorem dX2_init_1 : decode cX2_init 1 = .ok (.invokespecial 3, 3) := by decide +kernel
theorem dX2_init_4 : decode cX2_init 4 = .ok (.aload_n 0, 1) := by decide +kernel
theorem dX2_init_5 : decode cX2_init 5 = .ok (.iconst (-1), 1) := by decide +kernel
theorem dX2_init_6 : decode cX2_init 6 = .ok (.putfield 9, 3) := by decide +kernel
theorem dX2_init_9 : decode cX2_init 9 = .ok (.aload_n 0, 1) := by decide +kernel
theorem dX2_init_10 : decode cX2_init 10 = .ok (.iconst 1, 1) := by decide +kernel
theorem dX2_init_11 : decode cX2_init 11 = .ok (.putfield 15, 3) := by decide +kernel
theorem dX2_init_14 : decode cX2_init 14 = .ok (.aload_n 0, 1) := by decide +kernel
theorem dX2_init_15 : decode cX2_init 15 = .ok (.new 18, 3) := by decide +kernel
theorem dX2_init_18 : decode cX2_init 18 = .ok (.dup, 1) := by decide +kernel
theorem dX2_init_19 : decode cX2_init 19 = .ok (.invokespecial 20, 3) := by decide +kernel
theorem dX2_init_22 : decode cX2_init 22 = .ok (.putfield 21, 3) := by decide +kernel
theorem dX2_init_25 : decode cX2_init 25 = .ok (.return_, 1) := by decide +kernel
theorem dX2_setUnused_0 : decode cX2_setUnused 0 = .ok (.aload_n 0, 1) := by decide +kernel
theorem dX2_setUnused_1 : decode cX2_setUnused 1 = .ok (.iconst 0, 1) := by decide +kernel
theorem dX2_setUnused_2 : decode cX2_setUnused 2 = .ok (.putfield 25, 3) := by decide +kernel
theorem dX2_setUnused_5 : decode cX2_setUnused 5 = .ok (.aload_n 0, 1) := by decide +kernel
theorem dX2_setUnused_6 : decode cX2_setUnused 6 = .ok (.iconst 0, 1) := by decide +kernel
theorem dX2_setUnused_7 : decode cX2_setUnused 7 = .ok (.putfield 28, 3) := by decide +kernel
theorem dX2_setUnused_10 : decode cX2_setUnused 10 = .ok (.aload_n 0, 1) := by decide +kernel
theorem dX2_setUnused_11 : decode cX2_setUnused 11 = .ok (.iconst 0, 1) := by decide +kernel
theorem dX2_setUnused_12 : decode cX2_setUnused 12 = .ok (.putfield 31, 3) := by decide +kernel
theorem dX2_setUnused_15 : decode cX2_setUnused 15 = .ok (.aload_n 0, 1) := by decide +kernel
theorem dX2_setUnused_16 : decode cX2_setUnused 16 = .ok (.iconst 0, 1) := by decide +kernel
theorem dX2_setUnused_17 : decode cX2_setUnused 17 = .ok (.putfield 34, 3) := by decide +kernel
theorem dX2_setUnused_20 : decode cX2_setUnused 20 = .ok (.aload_n 0, 1) := by decide +kernel
theorem dX2_setUnused_21 : decode cX2_setUnused 21 = .ok (.iconst (-1), 1) := by decide +kernel
theorem dX2_setUnused_22 : decode cX2_setUnused 22 = .ok (.putfield 9, 3) := by decide +kernel
theorem dX2_setUnused_25 : decode cX2_setUnused 25 = .ok (.aload_n 0, 1) := by decide +kernel
theorem dX2_setUnused_26 : decode cX2_setUnused 26 = .ok (.iconst 0, 1) := by decide +kernel
theorem dX2_setUnused_27 : decode cX2_setUnused 27 = .ok (.putfield 37, 3) := by decide +kernel
theorem dX2_setUnused_30 : decode cX2_setUnused 30 = .ok (.return_, 1) := by decide +kernel
theorem dX2_startListening_0 : decode cX2_startListening 0 = .ok (.aload_n 0, 1) := by decide +kernel
theorem dX2_startListening_1 : decode cX2_startListening 1 = .ok (.iconst 1, 1) := by decide +kernel
theorem dX2_startListening_2 : decode cX2_startListening 2 = .ok (.putfield 25, 3) := by decide +kernel
theorem dX2_startListening_5 : decode cX2_startListening 5 = .ok (.aload_n 0, 1) := by decide +kernel
theorem dX2_startListening_6 : decode cX2_startListening 6 = .ok (.iload_n 1, 1) := by decide +kernel
theorem dX2_startListening_7 : decode cX2_startListening 7 = .ok (.putfield 28, 3) := by decide +kernel
theorem dX2_startListening_10 : decode cX2_startListening 10 = .ok (.aload_n 0, 1) := by decide +kernel
theorem dX2_startListening_11 : decode cX2_startListening 11 = .ok (.iload_n 2, 1) := by decide +kernel
theorem dX2_startListening_12 : decode cX2_startListening 12 = .ok (.putfield 41, 3) := by decide +kernel
theorem dX2_startListening_15 : decode cX2_startListening 15 = .ok (.return_, 1) := by decide +kernel
theorem dX2_giveEnd_0 : decode cX2_giveEnd 0 = .ok (.aload_n 0, 1) := by decide +kernel
theorem dX2_giveEnd_1 : decode cX2_giveEnd 1 = .ok (.iconst 2, 1) := by decide +kernel
theorem dX2_giveEnd_2 : decode cX2_giveEnd 2 = .ok (.putfield 25, 3) := by decide +kernel
theorem dX2_giveEnd_5 : decode cX2_giveEnd 5 = .ok (.aload_n 0, 1) := by decide +kernel
theorem dX2_giveEnd_6 : decode cX2_giveEnd 6 = .ok (.iload_n 1, 1) := by decide +kernel
theorem dX2_giveEnd_7 : decode cX2_giveEnd 7 = .ok (.putfield 28, 3) := by decide +kernel
theorem dX2_giveEnd_10 : decode cX2_giveEnd 10 = .ok (.aload_n 0, 1) := by decide +kernel
theorem dX2_giveEnd_11 : decode cX2_giveEnd 11 = .ok (.iload_n 2, 1) := by decide +kernel
theorem dX2_giveEnd_12 : decode cX2_giveEnd 12 = .ok (.putfield 31, 3) := by decide +kernel
theorem dX2_giveEnd_15 : decode cX2_giveEnd 15 = .ok (.aload_n 0, 1) := by decide +kernel
theorem dX2_giveEnd_16 : decode cX2_giveEnd 16 = .ok (.iload_n 3, 1) := by decide +kernel
theorem dX2_giveEnd_17 : decode cX2_giveEnd 17 = .ok (.putfield 34, 3) := by decide +kernel
theorem dX2_giveEnd_20 : decode cX2_giveEnd 20 = .ok (.aload_n 0, 1) := by decide +kernel
theorem dX2_giveEnd_21 : decode cX2_giveEnd 21 = .ok (.iconst (-1), 1) := by decide +kernel
theorem dX2_giveEnd_22 : decode cX2_giveEnd 22 = .ok (.putfield 9, 3) := by decide +kernel
theorem dX2_giveEnd_25 : decode cX2_giveEnd 25 = .ok (.aload_n 0, 1) := by decide +kernel
theorem dX2_giveEnd_26 : decode cX2_giveEnd 26 = .ok (.iconst 0, 1) := by decide +kernel
theorem dX2_giveEnd_27 : decode cX2_giveEnd 27 = .ok (.putfield 37, 3) := by decide +kernel
theorem dX2_giveEnd_30 : decode cX2_giveEnd 30 = .ok (.aload_n 0, 1) := by decide +kernel
theorem dX2_giveEnd_31 : decode cX2_giveEnd 31 = .ok (.iconst 0, 1) := by decide +kernel
theorem dX2_giveEnd_32 : decode cX2_giveEnd 32 = .ok (.putfield 44, 3) := by decide +kernel
theorem dX2_giveEnd_35 : decode cX2_giveEnd 35 = .ok (.aload_n 0, 1) := by decide +kernel
theorem dX2_giveEnd_36 : decode cX2_giveEnd 36 = .ok (.iconst 0, 1) := by decide +kernel
theorem dX2_giveEnd_37 : decode cX2_giveEnd 37 = .ok (.putfield 47, 3) := by decide +kernel
theorem dX2_giveEnd_40 : decode cX2_giveEnd 40 = .ok (.aload_n 0, 1) := by decide +kernel
theorem dX2_giveEnd_41 : decode cX2_giveEnd 41 = .ok (.iconst 1, 1) := by decide +kernel
theorem dX2_giveEnd_42 : decode cX2_giveEnd 42 = .ok (.putfield 15, 3) := by decide +kernel
theorem dX2_giveEnd_45 : decode cX2_giveEnd 45 = .ok (.aload_n 0, 1) := by decide +kernel
theorem dX2_giveEnd_46 : decode cX2_giveEnd 46 = .ok (.iconst 0, 1) := by decide +kernel
theorem dX2_giveEnd_47 : decode cX2_giveEnd 47 = .ok (.putfield 50, 3) := by decide +kernel
theorem dX2_giveEnd_50 : decode cX2_giveEnd 50 = .ok (.aload_n 0, 1) := by decide +kernel
theorem dX2_giveEnd_51 : decode cX2_giveEnd 51 = .ok (.iconst 0, 1) := by decide +kernel
theorem dX2_giveEnd_52 : decode cX2_giveEnd 52 = .ok (.putfield 53, 3) := by decide +kernel
theorem dX2_giveEnd_55 : decode cX2_giveEnd 55 = .ok (.return_, 1) := by decide +kernel
theorem dX2_isFor_0 : decode cX2_isFor 0 = .ok (.aload_n 0, 1) := by decide +kernel
theorem dX2_isFor_1 : decode cX2_isFor 1 = .ok (.getfield 25, 3) := by decide +kernel
theorem dX2_isFor_4 : decode cX2_isFor 4 = .ok (.iconst 2, 1) := by decide +kernel
theorem dX2_isFor_5 : decode cX2_isFor 5 = .ok (.if_icmp .ne 31, 3) := by decide +kernel
theorem dX2_isFor_8 : decode cX2_isFor 8 = .ok (.aload_n 0, 1) := by decide +kernel
theorem dX2_isFor_9 : decode cX2_isFor 9 = .ok (.getfield 28, 3) := by decide +kernel
theorem dX2_isFor_12 : decode cX2_isFor 12 = .ok (.iload_n 1, 1) := by decide +kernel
theorem dX2_isFor_13 : decode cX2_isFor 13 = .ok (.if_icmp .ne 23, 3) := by decide +kernel
theorem dX2_isFor_16 : decode cX2_isFor 16 = .ok (.aload_n 0, 1) := by decide +kernel
theorem dX2_isFor_17 : decode cX2_isFor 17 = .ok (.getfield 31, 3) := by decide +kernel
theorem dX2_isFor_20 : decode cX2_isFor 20 = .ok (.iload_n 2, 1) := by decide +kernel
theorem dX2_isFor_21 : decode cX2_isFor 21 = .ok (.if_icmp .ne 15, 3) := by decide +kernel
theorem dX2_isFor_24 : decode cX2_isFor 24 = .ok (.aload_n 0, 1) := by decide +kernel
theorem dX2_isFor_25 : decode cX2_isFor 25 = .ok (.getfield 34, 3) := by decide +kernel
theorem dX2_isFor_28 : decode cX2_isFor 28 = .ok (.iload_n 3, 1) := by decide +kernel
theorem dX2_isFor_29 : decode cX2_isFor 29 = .ok (.if_icmp .ne 7, 3) := by decide +kernel
theorem dX2_isFor_32 : decode cX2_isFor 32 = .ok (.iconst 1, 1) := by decide +kernel
theorem dX2_isFor_33 : decode cX2_isFor 33 = .ok (.goto 4, 3) := by decide +kernel
theorem dX2_isFor_36 : decode cX2_isFor 36 = .ok (.iconst 0, 1) := by decide +kernel
theorem dX2_isFor_37 : decode cX2_isFor 37 = .ok (.ireturn, 1) := by decide +kernel
theorem dX2_takesBytes_0 : decode cX2_takesBytes 0 = .ok (.aload_n 0, 1) := by decide +kernel
theorem dX2_takesBytes_1 : decode cX2_takesBytes 1 = .ok (.getfield 25, 3) := by decide +kernel
theorem dX2_takesBytes_4 : decode cX2_takesBytes 4 = .ok (.iconst 2, 1) := by decide +kernel
theorem dX2_takesBytes_5 : decode cX2_takesBytes 5 = .ok (.if_icmp .ne 41, 3) := by decide +kernel
theorem dX2_takesBytes_8 : decode cX2_takesBytes 8 = .ok (.aload_n 0, 1) := by decide +kernel
theorem dX2_takesBytes_9 : decode cX2_takesBytes 9 = .ok (.getfield 21, 3) := by decide +kernel
theorem dX2_takesBytes_12 : decode cX2_takesBytes 12 = .ok (.getfield 56, 3) := by decide +kernel
theorem dX2_takesBytes_15 : decode cX2_takesBytes 15 = .ok (.getfield 60, 3) := by decide +kernel
theorem dX2_takesBytes_18 : decode cX2_takesBytes 18 = .ok (.ifCond .ne 28, 3) := by decide +kernel
theorem dX2_takesBytes_21 : decode cX2_takesBytes 21 = .ok (.aload_n 0, 1) := by decide +kernel
theorem dX2_takesBytes_22 : decode cX2_takesBytes 22 = .ok (.getfield 21, 3) := by decide +kernel
theorem dX2_takesBytes_25 : decode cX2_takesBytes 25 = .ok (.getfield 65, 3) := by decide +kernel
theorem dX2_takesBytes_28 : decode cX2_takesBytes 28 = .ok (.iconst 1, 1) := by decide +kernel
theorem dX2_takesBytes_29 : decode cX2_takesBytes 29 = .ok (.if_icmp .eq 17, 3) := by decide +kernel
theorem dX2_takesBytes_32 : decode cX2_takesBytes 32 = .ok (.aload_n 0, 1) := by decide +kernel
theorem dX2_takesBytes_33 : decode cX2_takesBytes 33 = .ok (.getfield 21, 3) := by decide +kernel
theorem dX2_takesBytes_36 : decode cX2_takesBytes 36 = .ok (.invokevirtual 68, 3) := by decide +kernel
theorem dX2_takesBytes_39 : decode cX2_takesBytes 39 = .ok (.ifCond .ne 7, 3) := by decide +kernel
theorem dX2_takesBytes_42 : decode cX2_takesBytes 42 = .ok (.iconst 1, 1) := by decide +kernel
theorem dX2_takesBytes_43 : decode cX2_takesBytes 43 = .ok (.goto 4, 3) := by decide +kernel
theorem dX2_takesBytes_46 : decode cX2_takesBytes 46 = .ok (.iconst 0, 1) := by decide +kernel
theorem dX2_takesBytes_47 : decode cX2_takesBytes 47 = .ok (.ireturn, 1) := by decide +kernel
theorem dX3_init_0 : decode cX3_init 0 = .ok (.aload_n 0, 1) := by decide +kernel
theorem dX3_init_1 : decode cX3_init 1 = .ok (.invokespecial 3, 3) := by decide +kernel
theorem dX3_init_4 : decode cX3_init 4 = .ok (.aload_n 0, 1) := by decide +kernel
theorem dX3_init_5 : decode cX3_init 5 = .ok (.new 9, 3) := by decide +kernel
theorem dX3_init_8 : decode cX3_init 8 = .ok (.dup, 1) := by decide +kernel
theorem dX3_init_9 : decode cX3_init 9 = .ok (.invokespecial 11, 3) := by decide +kernel
theorem dX3_init_12 : decode cX3_init 12 = .ok (.putfield 12, 3) := by decide +kernel
theorem dX3_init_15 : decode cX3_init 15 = .ok (.aload_n 0, 1) := by decide +kernel
theorem dX3_init_16 : decode cX3_init 16 = .ok (.new 18, 3) := by decide +kernel
theorem dX3_init_19 : decode cX3_init 19 = .ok (.dup, 1) := by decide +kernel
theorem dX3_init_20 : decode cX3_init 20 = .ok (.invokespecial 20, 3) := by decide +kernel
theorem dX3_init_23 : decode cX3_init 23 = .ok (.putfield 21, 3) := by decide +kernel
theorem dX3_init_26 : decode cX3_init 26 = .ok (.aload_n 0, 1) := by decide +kernel
theorem dX3_init_27 : decode cX3_init 27 = .ok (.new 25, 3) := by decide +kernel
theorem dX3_init_30 : decode cX3_init 30 = .ok (.dup, 1) := by decide +kernel
theorem dX3_init_31 : decode cX3_init 31 = .ok (.invokespecial 27, 3) := by decide +kernel
theorem dX3_init_34 : decode cX3_init 34 = .ok (.putfield 28, 3) := by decide +kernel
theorem dX3_init_37 : decode cX3_init 37 = .ok (.return_, 1) := by decide +kernel
theorem dX3_begin_0 : decode cX3_begin 0 = .ok (.aload_n 0, 1) := by decide +kernel
theorem dX3_begin_1 : decode cX3_begin 1 = .ok (.iconst 1, 1) := by decide +kernel
theorem dX3_begin_2 : decode cX3_begin 2 = .ok (.putfield 32, 3) := by decide +kernel
theorem dX3_begin_5 : decode cX3_begin 5 = .ok (.aload_n 0, 1) := by decide +kernel
theorem dX3_begin_6 : decode cX3_begin 6 = .ok (.iload_n 2, 1) := by decide +kernel
theorem dX3_begin_7 : decode cX3_begin 7 = .ok (.putfield 36, 3) := by decide +kernel
theorem dX3_begin_10 : decode cX3_begin 10 = .ok (.aload_n 0, 1) := by decide +kernel
theorem dX3_begin_11 : decode cX3_begin 11 = .ok (.iconst 1, 1) := by decide +kernel
theorem dX3_begin_12 : decode cX3_begin 12 = .ok (.putfield 39, 3) := by decide +kernel
theorem dX3_begin_15 : decode cX3_begin 15 = .ok (.aload_n 0, 1) := by decide +kernel
theorem dX3_begin_16 : decode cX3_begin 16 = .ok (.iload_n 3, 1) := by decide +kernel
theorem dX3_begin_17 : decode cX3_begin 17 = .ok (.putfield 43, 3) := by decide +kernel
theorem dX3_begin_20 : decode cX3_begin 20 = .ok (.aload_n 0, 1) := by decide +kernel
theorem dX3_begin_21 : decode cX3_begin 21 = .ok (.iconst 0, 1) := by decide +kernel
theorem dX3_begin_22 : decode cX3_begin 22 = .ok (.putfield 46, 3) := by decide +kernel
theorem dX3_begin_25 : decode cX3_begin 25 = .ok (.aload_n 0, 1) := by decide +kernel
theorem dX3_begin_26 : decode cX3_begin 26 = .ok (.iload_n 1, 1) := by decide +kernel
theorem dX3_begin_27 : decode cX3_begin 27 = .ok (.invokevirtual 49, 3) := by decide +kernel
theorem dX3_begin_30 : decode cX3_begin 30 = .ok (.return_, 1) := by decide +kernel
theorem dX3_beginAgain_0 : decode cX3_beginAgain 0 = .ok (.aload_n 0, 1) := by decide +kernel
theorem dX3_beginAgain_1 : decode cX3_beginAgain 1 = .ok (.iconst 1, 1) := by decide +kernel
theorem dX3_beginAgain_2 : decode cX3_beginAgain 2 = .ok (.putfield 32, 3) := by decide +kernel
theorem dX3_beginAgain_5 : decode cX3_beginAgain 5 = .ok (.aload_n 0, 1) := by decide +kernel
theorem dX3_beginAgain_6 : decode cX3_beginAgain 6 = .ok (.aload_n 0, 1) := by decide +kernel
theorem dX3_beginAgain_7 : decode cX3_beginAgain 7 = .ok (.getfield 36, 3) := by decide +kernel
theorem dX3_beginAgain_10 : decode cX3_beginAgain 10 = .ok (.putfield 53, 3) := by decide +kernel
theorem dX3_beginAgain_13 : decode cX3_beginAgain 13 = .ok (.aload_n 0, 1) := by decide +kernel
theorem dX3_beginAgain_14 : decode cX3_beginAgain 14 = .ok (.iconst 0, 1) := by decide +kernel
theorem dX3_beginAgain_15 : decode cX3_beginAgain 15 = .ok (.putfield 56, 3) := by decide +kernel
theorem dX3_beginAgain_18 : decode cX3_beginAgain 18 = .ok (.aload_n 0, 1) := by decide +kernel
theorem dX3_beginAgain_19 : decode cX3_beginAgain 19 = .ok (.iconst 0, 1) := by decide +kernel
theorem dX3_beginAgain_20 : decode cX3_beginAgain 20 = .ok (.putfield 59, 3) := by decide +kernel
theorem dX3_beginAgain_23 : decode cX3_beginAgain 23 = .ok (.aload_n 0, 1) := by decide +kernel
theorem dX3_beginAgain_24 : decode cX3_beginAgain 24 = .ok (.iconst 0, 1) := by decide +kernel
theorem dX3_beginAgain_25 : decode cX3_beginAgain 25 = .ok (.putfield 62, 3) := by decide +kernel
theorem dX3_beginAgain_28 : decode cX3_beginAgain 28 = .ok (.aload_n 0, 1) := by decide +kernel
theorem dX3_beginAgain_29 : decode cX3_beginAgain 29 = .ok (.iconst 0, 1) := by decide +kernel
theorem dX3_beginAgain_30 : decode cX3_beginAgain 30 = .ok (.putfield 65, 3) := by decide +kernel
theorem dX3_beginAgain_33 : decode cX3_beginAgain 33 = .ok (.aload_n 0, 1) := by decide +kernel
theorem dX3_beginAgain_34 : decode cX3_beginAgain 34 = .ok (.iconst 0, 1) := by decide +kernel
theorem dX3_beginAgain_35 : decode cX3_beginAgain 35 = .ok (.putfield 68, 3) := by decide +kernel
theorem dX3_beginAgain_38 : decode cX3_beginAgain 38 = .ok (.aload_n 0, 1) := by decide +kernel
theorem dX3_beginAgain_39 : decode cX3_beginAgain 39 = .ok (.iconst 0, 1) := by decide +kernel
theorem dX3_beginAgain_40 : decode cX3_beginAgain 40 = .ok (.putfield 71, 3) := by decide +kernel
theorem dX3_beginAgain_43 : decode cX3_beginAgain 43 = .ok (.aload_n 0, 1) := by decide +kernel
theorem dX3_beginAgain_44 : decode cX3_beginAgain 44 = .ok (.iconst 0, 1) := by decide +kernel
theorem dX3_beginAgain_45 : decode cX3_beginAgain 45 = .ok (.putfield 74, 3) := by decide +kernel
theorem dX3_beginAgain_48 : decode cX3_beginAgain 48 = .ok (.aload_n 0, 1) := by decide +kernel
theorem dX3_beginAgain_49 : decode cX3_beginAgain 49 = .ok (.getfield 12, 3) := by decide +kernel
theorem dX3_beginAgain_52 : decode cX3_beginAgain 52 = .ok (.iload_n 1, 1) := by decide +kernel
theorem dX3_beginAgain_53 : decode cX3_beginAgain 53 = .ok (.invokevirtual 77, 3) := by decide +kernel
theorem dX3_beginAgain_56 : decode cX3_beginAgain 56 = .ok (.aload_n 0, 1) := by decide +kernel
theorem dX3_beginAgain_57 : decode cX3_beginAgain 57 = .ok (.getfield 21, 3) := by decide +kernel
theorem dX3_beginAgain_60 : decode cX3_beginAgain 60 = .ok (.invokevirtual 80, 3) := by decide +kernel
theorem dX3_beginAgain_63 : decode cX3_beginAgain 63 = .ok (.aload_n 0, 1) := by decide +kernel
theorem dX3_beginAgain_64 : decode cX3_beginAgain 64 = .ok (.getfield 28, 3) := by decide +kernel
theorem dX3_beginAgain_67 : decode cX3_beginAgain 67 = .ok (.invokevirtual 82, 3) := by decide +kernel
theorem dX3_beginAgain_70 : decode cX3_beginAgain 70 = .ok (.return_, 1) := by decide +kernel
theorem dX3_startAsking_0 : decode cX3_startAsking 0 = .ok (.aload_n 0, 1) := by decide +kernel
theorem dX3_startAsking_1 : decode cX3_startAsking 1 = .ok (.iconst 2, 1) := by decide +kernel
theorem dX3_startAsking_2 : decode cX3_startAsking 2 = .ok (.putfield 32, 3) := by decide +kernel
theorem dX3_startAsking_5 : decode cX3_startAsking 5 = .ok (.aload_n 0, 1) := by decide +kernel
theorem dX3_startAsking_6 : decode cX3_startAsking 6 = .ok (.iconst 0, 1) := by decide +kernel
theorem dX3_startAsking_7 : decode cX3_startAsking 7 = .ok (.putfield 39, 3) := by decide +kernel
theorem dX3_startAsking_10 : decode cX3_startAsking 10 = .ok (.aload_n 0, 1) := by decide +kernel
theorem dX3_startAsking_11 : decode cX3_startAsking 11 = .ok (.getfield 12, 3) := by decide +kernel
theorem dX3_startAsking_14 : decode cX3_startAsking 14 = .ok (.aload_n 0, 1) := by decide +kernel
theorem dX3_startAsking_15 : decode cX3_startAsking 15 = .ok (.getfield 12, 3) := by decide +kernel
theorem dX3_startAsking_18 : decode cX3_startAsking 18 = .ok (.getfield 83, 3) := by decide +kernel
theorem dX3_startAsking_21 : decode cX3_startAsking 21 = .ok (.iconst 1, 1) := by decide +kernel
theorem dX3_startAsking_22 : decode cX3_startAsking 22 = .ok (.iadd, 1) := by decide +kernel
theorem dX3_startAsking_23 : decode cX3_startAsking 23 = .ok (.putfield 86, 3) := by decide +kernel
theorem dX3_startAsking_26 : decode cX3_startAsking 26 = .ok (.aload_n 0, 1) := by decide +kernel
theorem dX3_startAsking_27 : decode cX3_startAsking 27 = .ok (.iconst 1, 1) := by decide +kernel
theorem dX3_startAsking_28 : decode cX3_startAsking 28 = .ok (.putfield 59, 3) := by decide +kernel
theorem dX3_startAsking_31 : decode cX3_startAsking 31 = .ok (.return_, 1) := by decide +kernel
theorem dX3_isDead_0 : decode cX3_isDead 0 = .ok (.aload_n 0, 1) := by decide +kernel
theorem dX3_isDead_1 : decode cX3_isDead 1 = .ok (.getfield 32, 3) := by decide +kernel
theorem dX3_isDead_4 : decode cX3_isDead 4 = .ok (.ifCond .eq 12, 3) := by decide +kernel
theorem dX3_isDead_7 : decode cX3_isDead 7 = .ok (.aload_n 0, 1) := by decide +kernel
theorem dX3_isDead_8 : decode cX3_isDead 8 = .ok (.getfield 32, 3) := by decide +kernel
theorem dX3_isDead_11 : decode cX3_isDead 11 = .ok (.bipush 11, 2) := by decide +kernel
theorem dX3_isDead_13 : decode cX3_isDead 13 = .ok (.if_icmp .ne 7, 3) := by decide +kernel
theorem dX3_isDead_16 : decode cX3_isDead 16 = .ok (.iconst 1, 1) := by decide +kernel
theorem dX3_isDead_17 : decode cX3_isDead 17 = .ok (.goto 4, 3) := by decide +kernel
theorem dX3_isDead_20 : decode cX3_isDead 20 = .ok (.iconst 0, 1) := by decide +kernel
theorem dX3_isDead_21 : decode cX3_isDead 21 = .ok (.ireturn, 1) := by decide +kernel
theorem dX3_sendsNew_0 : decode cX3_sendsNew 0 = .ok (.aload_n 0, 1) := by decide +kernel
theorem dX3_sendsNew_1 : decode cX3_sendsNew 1 = .ok (.getfield 32, 3) := by decide +kernel
theorem dX3_sendsNew_4 : decode cX3_sendsNew 4 = .ok (.iconst 4, 1) := by decide +kernel
theorem dX3_sendsNew_5 : decode cX3_sendsNew 5 = .ok (.if_icmp .eq 29, 3) := by decide +kernel
theorem dX3_sendsNew_8 : decode cX3_sendsNew 8 = .ok (.aload_n 0, 1) := by decide +kernel
theorem dX3_sendsNew_9 : decode cX3_sendsNew 9 = .ok (.getfield 32, 3) := by decide +kernel
theorem dX3_sendsNew_12 : decode cX3_sendsNew 12 = .ok (.iconst 5, 1) := by decide +kernel
theorem dX3_sendsNew_13 : decode cX3_sendsNew 13 = .ok (.if_icmp .eq 21, 3) := by decide +kernel
theorem dX3_sendsNew_16 : decode cX3_sendsNew 16 = .ok (.aload_n 0, 1) := by decide +kernel
theorem dX3_sendsNew_17 : decode cX3_sendsNew 17 = .ok (.getfield 32, 3) := by decide +kernel
theorem dX3_sendsNew_20 : decode cX3_sendsNew 20 = .ok (.bipush 7, 2) := by decide +kernel
theorem dX3_sendsNew_22 : decode cX3_sendsNew 22 = .ok (.if_icmp .lt 16, 3) := by decide +kernel
theorem dX3_sendsNew_25 : decode cX3_sendsNew 25 = .ok (.aload_n 0, 1) := by decide +kernel
theorem dX3_sendsNew_26 : decode cX3_sendsNew 26 = .ok (.getfield 32, 3) := by decide +kernel
theorem dX3_sendsNew_29 : decode cX3_sendsNew 29 = .ok (.bipush 9, 2) := by decide +kernel
theorem dX3_sendsNew_31 : decode cX3_sendsNew 31 = .ok (.if_icmp .gt 7, 3) := by decide +kernel
theorem dX3_sendsNew_34 : decode cX3_sendsNew 34 = .ok (.iconst 1, 1) := by decide +kernel
theorem dX3_sendsNew_35 : decode cX3_sendsNew 35 = .ok (.goto 4, 3) := by decide +kernel
theorem dX3_sendsNew_38 : decode cX3_sendsNew 38 = .ok (.iconst 0, 1) := by decide +kernel
theorem dX3_sendsNew_39 : decode cX3_sendsNew 39 = .ok (.ireturn, 1) := by decide +kernel
theorem dX3_takesIn_0 : decode cX3_takesIn 0 = .ok (.aload_n 0, 1) := by decide +kernel
theorem dX3_takesIn_1 : decode cX3_takesIn 1 = .ok (.getfield 32, 3) := by decide +kernel
theorem dX3_takesIn_4 : decode cX3_takesIn 4 = .ok (.iconst 4, 1) := by decide +kernel
theorem dX3_takesIn_5 : decode cX3_takesIn 5 = .ok (.if_icmp .eq 20, 3) := by decide +kernel
theorem dX3_takesIn_8 : decode cX3_takesIn 8 = .ok (.aload_n 0, 1) := by decide +kernel
theorem dX3_takesIn_9 : decode cX3_takesIn 9 = .ok (.getfield 32, 3) := by decide +kernel
theorem dX3_takesIn_12 : decode cX3_takesIn 12 = .ok (.iconst 5, 1) := by decide +kernel
theorem dX3_takesIn_13 : decode cX3_takesIn 13 = .ok (.if_icmp .eq 12, 3) := by decide +kernel
theorem dX3_takesIn_16 : decode cX3_takesIn 16 = .ok (.aload_n 0, 1) := by decide +kernel
theorem dX3_takesIn_17 : decode cX3_takesIn 17 = .ok (.getfield 32, 3) := by decide +kernel
theorem dX3_takesIn_20 : decode cX3_takesIn 20 = .ok (.bipush 6, 2) := by decide +kernel
theorem dX3_takesIn_22 : decode cX3_takesIn 22 = .ok (.if_icmp .ne 7, 3) := by decide +kernel
theorem dX3_takesIn_25 : decode cX3_takesIn 25 = .ok (.iconst 1, 1) := by decide +kernel
theorem dX3_takesIn_26 : decode cX3_takesIn 26 = .ok (.goto 4, 3) := by decide +kernel
theorem dX3_takesIn_29 : decode cX3_takesIn 29 = .ok (.iconst 0, 1) := by decide +kernel
theorem dX3_takesIn_30 : decode cX3_takesIn 30 = .ok (.ireturn, 1) := by decide +kernel
theorem dX3_finish_0 : decode cX3_finish 0 = .ok (.aload_n 0, 1) := by decide +kernel
theorem dX3_finish_1 : decode cX3_finish 1 = .ok (.iload_n 1, 1) := by decide +kernel
theorem dX3_finish_2 : decode cX3_finish 2 = .ok (.putfield 32, 3) := by decide +kernel
theorem dX3_finish_5 : decode cX3_finish 5 = .ok (.aload_n 0, 1) := by decide +kernel
theorem dX3_finish_6 : decode cX3_finish 6 = .ok (.iconst 0, 1) := by decide +kernel
theorem dX3_finish_7 : decode cX3_finish 7 = .ok (.putfield 59, 3) := by decide +kernel
theorem dX3_finish_10 : decode cX3_finish 10 = .ok (.aload_n 0, 1) := by decide +kernel
theorem dX3_finish_11 : decode cX3_finish 11 = .ok (.iconst 0, 1) := by decide +kernel
theorem dX3_finish_12 : decode cX3_finish 12 = .ok (.putfield 65, 3) := by decide +kernel
theorem dX3_finish_15 : decode cX3_finish 15 = .ok (.aload_n 0, 1) := by decide +kernel
theorem dX3_finish_16 : decode cX3_finish 16 = .ok (.iconst 0, 1) := by decide +kernel
theorem dX3_finish_17 : decode cX3_finish 17 = .ok (.putfield 68, 3) := by decide +kernel
theorem dX3_finish_20 : decode cX3_finish 20 = .ok (.iload_n 1, 1) := by decide +kernel
theorem dX3_finish_21 : decode cX3_finish 21 = .ok (.bipush 10, 2) := by decide +kernel
theorem dX3_finish_23 : decode cX3_finish 23 = .ok (.if_icmp .eq 8, 3) := by decide +kernel
theorem dX3_finish_26 : decode cX3_finish 26 = .ok (.aload_n 0, 1) := by decide +kernel
theorem dX3_finish_27 : decode cX3_finish 27 = .ok (.iconst 0, 1) := by decide +kernel
theorem dX3_finish_28 : decode cX3_finish 28 = .ok (.putfield 71, 3) := by decide +kernel
theorem dX3_finish_31 : decode cX3_finish 31 = .ok (.aload_n 0, 1) := by decide +kernel
theorem dX3_finish_32 : decode cX3_finish 32 = .ok (.getfield 28, 3) := by decide +kernel
theorem dX3_finish_35 : decode cX3_finish 35 = .ok (.iconst 0, 1) := by decide +kernel
theorem dX3_finish_36 : decode cX3_finish 36 = .ok (.putfield 89, 3) := by decide +kernel
theorem dX3_finish_39 : decode cX3_finish 39 = .ok (.return_, 1) := by decide +kernel
theorem dX3_becomeQuiet_0 : decode cX3_becomeQuiet 0 = .ok (.aload_n 0, 1) := by decide +kernel
theorem dX3_becomeQuiet_1 : decode cX3_becomeQuiet 1 = .ok (.bipush 10, 2) := by decide +kernel
theorem dX3_becomeQuiet_3 : decode cX3_becomeQuiet 3 = .ok (.invokevirtual 92, 3) := by decide +kernel
theorem dX3_becomeQuiet_6 : decode cX3_becomeQuiet 6 = .ok (.aload_n 0, 1) := by decide +kernel
theorem dX3_becomeQuiet_7 : decode cX3_becomeQuiet 7 = .ok (.iload_n 1, 1) := by decide +kernel
theorem dX3_becomeQuiet_8 : decode cX3_becomeQuiet 8 = .ok (.sipush 2000, 3) := by decide +kernel
theorem dX3_becomeQuiet_11 : decode cX3_becomeQuiet 11 = .ok (.iadd, 1) := by decide +kernel
theorem dX3_becomeQuiet_12 : decode cX3_becomeQuiet 12 = .ok (.putfield 56, 3) := by decide +kernel
theorem dX3_becomeQuiet_15 : decode cX3_becomeQuiet 15 = .ok (.return_, 1) := by decide +kernel
theorem dX3_closeByOwner_0 : decode cX3_closeByOwner 0 = .ok (.aload_n 0, 1) := by decide +kernel
theorem dX3_closeByOwner_1 : decode cX3_closeByOwner 1 = .ok (.getfield 12, 3) := by decide +kernel
theorem dX3_closeByOwner_4 : decode cX3_closeByOwner 4 = .ok (.iconst 1, 1) := by decide +kernel
theorem dX3_closeByOwner_5 : decode cX3_closeByOwner 5 = .ok (.putfield 95, 3) := by decide +kernel
theorem dX3_closeByOwner_8 : decode cX3_closeByOwner 8 = .ok (.aload_n 0, 1) := by decide +kernel
theorem dX3_closeByOwner_9 : decode cX3_closeByOwner 9 = .ok (.getfield 32, 3) := by decide +kernel
theorem dX3_closeByOwner_12 : decode cX3_closeByOwner 12 = .ok (.iconst 1, 1) := by decide +kernel
theorem dX3_closeByOwner_13 : decode cX3_closeByOwner 13 = .ok (.if_icmp .eq 11, 3) := by decide +kernel
theorem dX3_closeByOwner_16 : decode cX3_closeByOwner 16 = .ok (.aload_n 0, 1) := by decide +kernel
theorem dX3_closeByOwner_17 : decode cX3_closeByOwner 17 = .ok (.getfield 32, 3) := by decide +kernel
theorem dX3_closeByOwner_20 : decode cX3_closeByOwner 20 = .ok (.iconst 2, 1) := by decide +kernel
theorem dX3_closeByOwner_21 : decode cX3_closeByOwner 21 = .ok (.if_icmp .ne 11, 3) := by decide +kernel
theorem dX3_closeByOwner_24 : decode cX3_closeByOwner 24 = .ok (.aload_n 0, 1) := by decide +kernel
theorem dX3_closeByOwner_25 : decode cX3_closeByOwner 25 = .ok (.iconst 0, 1) := by decide +kernel
theorem dX3_closeByOwner_26 : decode cX3_closeByOwner 26 = .ok (.invokevirtual 92, 3) := by decide +kernel
theorem dX3_closeByOwner_29 : decode cX3_closeByOwner 29 = .ok (.goto 34, 3) := by decide +kernel
theorem dX3_closeByOwner_32 : decode cX3_closeByOwner 32 = .ok (.aload_n 0, 1) := by decide +kernel
theorem dX3_closeByOwner_33 : decode cX3_closeByOwner 33 = .ok (.getfield 32, 3) := by decide +kernel
theorem dX3_closeByOwner_36 : decode cX3_closeByOwner 36 = .ok (.iconst 4, 1) := by decide +kernel
theorem dX3_closeByOwner_37 : decode cX3_closeByOwner 37 = .ok (.if_icmp .ne 11, 3) := by decide +kernel
theorem dX3_closeByOwner_40 : decode cX3_closeByOwner 40 = .ok (.aload_n 0, 1) := by decide +kernel
theorem dX3_closeByOwner_41 : decode cX3_closeByOwner 41 = .ok (.iconst 5, 1) := by decide +kernel
theorem dX3_closeByOwner_42 : decode cX3_closeByOwner 42 = .ok (.putfield 32, 3) := by decide +kernel
theorem dX3_closeByOwner_45 : decode cX3_closeByOwner 45 = .ok (.goto 18, 3) := by decide +kernel
theorem dX3_closeByOwner_48 : decode cX3_closeByOwner 48 = .ok (.aload_n 0, 1) := by decide +kernel
theorem dX3_closeByOwner_49 : decode cX3_closeByOwner 49 = .ok (.getfield 32, 3) := by decide +kernel
theorem dX3_closeByOwner_52 : decode cX3_closeByOwner 52 = .ok (.bipush 7, 2) := by decide +kernel
theorem dX3_closeByOwner_54 : decode cX3_closeByOwner 54 = .ok (.if_icmp .ne 9, 3) := by decide +kernel
theorem dX3_closeByOwner_57 : decode cX3_closeByOwner 57 = .ok (.aload_n 0, 1) := by decide +kernel
theorem dX3_closeByOwner_58 : decode cX3_closeByOwner 58 = .ok (.bipush 9, 2) := by decide +kernel
theorem dX3_closeByOwner_60 : decode cX3_closeByOwner 60 = .ok (.putfield 32, 3) := by decide +kernel
theorem dX3_closeByOwner_63 : decode cX3_closeByOwner 63 = .ok (.return_, 1) := by decide +kernel
theorem dX3_abortByOwner_0 : decode cX3_abortByOwner 0 = .ok (.aload_n 0, 1) := by decide +kernel
theorem dX3_abortByOwner_1 : decode cX3_abortByOwner 1 = .ok (.getfield 32, 3) := by decide +kernel
theorem dX3_abortByOwner_4 : decode cX3_abortByOwner 4 = .ok (.iconst 1, 1) := by decide +kernel
theorem dX3_abortByOwner_5 : decode cX3_abortByOwner 5 = .ok (.if_icmp .eq 53, 3) := by decide +kernel
theorem dX3_abortByOwner_8 : decode cX3_abortByOwner 8 = .ok (.aload_n 0, 1) := by decide +kernel
theorem dX3_abortByOwner_9 : decode cX3_abortByOwner 9 = .ok (.getfield 32, 3) := by decide +kernel
theorem dX3_abortByOwner_12 : decode cX3_abortByOwner 12 = .ok (.iconst 2, 1) := by decide +kernel
theorem dX3_abortByOwner_13 : decode cX3_abortByOwner 13 = .ok (.if_icmp .eq 45, 3) := by decide +kernel
theorem dX3_abortByOwner_16 : decode cX3_abortByOwner 16 = .ok (.aload_n 0, 1) := by decide +kernel
theorem dX3_abortByOwner_17 : decode cX3_abortByOwner 17 = .ok (.getfield 32, 3) := by decide +kernel
theorem dX3_abortByOwner_20 : decode cX3_abortByOwner 20 = .ok (.bipush 10, 2) := by decide +kernel
theorem dX3_abortByOwner_22 : decode cX3_abortByOwner 22 = .ok (.if_icmp .eq 36, 3) := by decide +kernel
theorem dX3_abortByOwner_25 : decode cX3_abortByOwner 25 = .ok (.aload_n 0, 1) := by decide +kernel
theorem dX3_abortByOwner_26 : decode cX3_abortByOwner 26 = .ok (.iconst 1, 1) := by decide +kernel
theorem dX3_abortByOwner_27 : decode cX3_abortByOwner 27 = .ok (.putfield 46, 3) := by decide +kernel
theorem dX3_abortByOwner_30 : decode cX3_abortByOwner 30 = .ok (.aload_n 0, 1) := by decide +kernel
theorem dX3_abortByOwner_31 : decode cX3_abortByOwner 31 = .ok (.bipush 12, 2) := by decide +kernel
theorem dX3_abortByOwner_33 : decode cX3_abortByOwner 33 = .ok (.putfield 98, 3) := by decide +kernel
theorem dX3_abortByOwner_36 : decode cX3_abortByOwner 36 = .ok (.aload_n 0, 1) := by decide +kernel
theorem dX3_abortByOwner_37 : decode cX3_abortByOwner 37 = .ok (.aload_n 0, 1) := by decide +kernel
theorem dX3_abortByOwner_38 : decode cX3_abortByOwner 38 = .ok (.getfield 12, 3) := by decide +kernel
theorem dX3_abortByOwner_41 : decode cX3_abortByOwner 41 = .ok (.getfield 86, 3) := by decide +kernel
theorem dX3_abortByOwner_44 : decode cX3_abortByOwner 44 = .ok (.putfield 101, 3) := by decide +kernel
theorem dX3_abortByOwner_47 : decode cX3_abortByOwner 47 = .ok (.aload_n 0, 1) := by decide +kernel
theorem dX3_abortByOwner_48 : decode cX3_abortByOwner 48 = .ok (.aload_n 0, 1) := by decide +kernel
theorem dX3_abortByOwner_49 : decode cX3_abortByOwner 49 = .ok (.getfield 21, 3) := by decide +kernel
theorem dX3_abortByOwner_52 : decode cX3_abortByOwner 52 = .ok (.getfield 104, 3) := by decide +kernel
theorem dX3_abortByOwner_55 : decode cX3_abortByOwner 55 = .ok (.putfield 107, 3) := by decide +kernel
theorem dX3_abortByOwner_58 : decode cX3_abortByOwner 58 = .ok (.aload_n 0, 1) := by decide +kernel
theorem dX3_abortByOwner_59 : decode cX3_abortByOwner 59 = .ok (.bipush 11, 2) := by decide +kernel
theorem dX3_abortByOwner_61 : decode cX3_abortByOwner 61 = .ok (.invokevirtual 92, 3) := by decide +kernel
theorem dX3_abortByOwner_64 : decode cX3_abortByOwner 64 = .ok (.return_, 1) := by decide +kernel
theorem dX3_takeByte_0 : decode cX3_takeByte 0 = .ok (.aload_n 0, 1) := by decide +kernel
theorem dX3_takeByte_1 : decode cX3_takeByte 1 = .ok (.getfield 53, 3) := by decide +kernel
theorem dX3_takeByte_4 : decode cX3_takeByte 4 = .ok (.sipush 1024, 3) := by decide +kernel
theorem dX3_takeByte_7 : decode cX3_takeByte 7 = .ok (.invokestatic 110, 3) := by decide +kernel
theorem dX3_takeByte_10 : decode cX3_takeByte 10 = .ok (.istore_n 1, 1) := by decide +kernel
theorem dX3_takeByte_11 : decode cX3_takeByte 11 = .ok (.aload_n 0, 1) := by decide +kernel
theorem dX3_takeByte_12 : decode cX3_takeByte 12 = .ok (.getfield 21, 3) := by decide +kernel
theorem dX3_takeByte_15 : decode cX3_takeByte 15 = .ok (.invokevirtual 116, 3) := by decide +kernel
theorem dX3_takeByte_18 : decode cX3_takeByte 18 = .ok (.iload_n 1, 1) := by decide +kernel
theorem dX3_takeByte_19 : decode cX3_takeByte 19 = .ok (.if_icmp .ge 7, 3) := by decide +kernel
theorem dX3_takeByte_22 : decode cX3_takeByte 22 = .ok (.iconst 1, 1) := by decide +kernel
theorem dX3_takeByte_23 : decode cX3_takeByte 23 = .ok (.goto 4, 3) := by decide +kernel
theorem dX3_takeByte_26 : decode cX3_takeByte 26 = .ok (.iconst 0, 1) := by decide +kernel
theorem dX3_takeByte_27 : decode cX3_takeByte 27 = .ok (.istore_n 2, 1) := by decide +kernel
theorem dX3_takeByte_28 : decode cX3_takeByte 28 = .ok (.aload_n 0, 1) := by decide +kernel
theorem dX3_takeByte_29 : decode cX3_takeByte 29 = .ok (.getfield 21, 3) := by decide +kernel
theorem dX3_takeByte_32 : decode cX3_takeByte 32 = .ok (.invokevirtual 120, 3) := by decide +kernel
theorem dX3_takeByte_35 : decode cX3_takeByte 35 = .ok (.istore_n 3, 1) := by decide +kernel
theorem dX3_takeByte_36 : decode cX3_takeByte 36 = .ok (.iload_n 2, 1) := by decide +kernel
theorem dX3_takeByte_37 : decode cX3_takeByte 37 = .ok (.ifCond .eq 26, 3) := by decide +kernel
theorem dX3_takeByte_40 : decode cX3_takeByte 40 = .ok (.aload_n 0, 1) := by decide +kernel
theorem dX3_takeByte_41 : decode cX3_takeByte 41 = .ok (.getfield 21, 3) := by decide +kernel
theorem dX3_takeByte_44 : decode cX3_takeByte 44 = .ok (.invokevirtual 116, 3) := by decide +kernel
theorem dX3_takeByte_47 : decode cX3_takeByte 47 = .ok (.iload_n 1, 1) := by decide +kernel
theorem dX3_takeByte_48 : decode cX3_takeByte 48 = .ok (.if_icmp .lt 15, 3) := by decide +kernel
theorem dX3_takeByte_51 : decode cX3_takeByte 51 = .ok (.aload_n 0, 1) := by decide +kernel
theorem dX3_takeByte_52 : decode cX3_takeByte 52 = .ok (.invokevirtual 123, 3) := by decide +kernel
theorem dX3_takeByte_55 : decode cX3_takeByte 55 = .ok (.ifCond .eq 8, 3) := by decide +kernel
theorem dX3_takeByte_58 : decode cX3_takeByte 58 = .ok (.aload_n 0, 1) := by decide +kernel
theorem dX3_takeByte_59 : decode cX3_takeByte 59 = .ok (.iconst 1, 1) := by decide +kernel
theorem dX3_takeByte_60 : decode cX3_takeByte 60 = .ok (.putfield 71, 3) := by decide +kernel
theorem dX3_takeByte_63 : decode cX3_takeByte 63 = .ok (.iload_n 3, 1) := by decide +kernel
theorem dX3_takeByte_64 : decode cX3_takeByte 64 = .ok (.ireturn, 1) := by decide +kernel
theorem dX3_ring_0 : decode cX3_ring 0 = .ok (.aload_n 0, 1) := by decide +kernel
theorem dX3_ring_1 : decode cX3_ring 1 = .ok (.getfield 32, 3) := by decide +kernel
theorem dX3_ring_4 : decode cX3_ring 4 = .ok (.bipush 10, 2) := by decide +kernel
theorem dX3_ring_6 : decode cX3_ring 6 = .ok (.if_icmp .ne 16, 3) := by decide +kernel
theorem dX3_ring_9 : decode cX3_ring 9 = .ok (.iload_n 1, 1) := by decide +kernel
theorem dX3_ring_10 : decode cX3_ring 10 = .ok (.aload_n 0, 1) := by decide +kernel
theorem dX3_ring_11 : decode cX3_ring 11 = .ok (.getfield 56, 3) := by decide +kernel
theorem dX3_ring_14 : decode cX3_ring 14 = .ok (.if_icmp .lt 8, 3) := by decide +kernel
theorem dX3_ring_17 : decode cX3_ring 17 = .ok (.aload_n 0, 1) := by decide +kernel
theorem dX3_ring_18 : decode cX3_ring 18 = .ok (.iconst 0, 1) := by decide +kernel
theorem dX3_ring_19 : decode cX3_ring 19 = .ok (.invokevirtual 92, 3) := by decide +kernel
theorem dX3_ring_22 : decode cX3_ring 22 = .ok (.aload_n 0, 1) := by decide +kernel
theorem dX3_ring_23 : decode cX3_ring 23 = .ok (.getfield 28, 3) := by decide +kernel
theorem dX3_ring_26 : decode cX3_ring 26 = .ok (.getfield 89, 3) := by decide +kernel
theorem dX3_ring_29 : decode cX3_ring 29 = .ok (.ifCond .eq 14, 3) := by decide +kernel
theorem dX3_ring_32 : decode cX3_ring 32 = .ok (.iload_n 1, 1) := by decide +kernel
theorem dX3_ring_33 : decode cX3_ring 33 = .ok (.aload_n 0, 1) := by decide +kernel
theorem dX3_ring_34 : decode cX3_ring 34 = .ok (.getfield 28, 3) := by decide +kernel
theorem dX3_ring_37 : decode cX3_ring 37 = .ok (.getfield 89, 3) := by decide +kernel
theorem dX3_ring_40 : decode cX3_ring 40 = .ok (.if_icmp .ge 4, 3) := by decide +kernel
theorem dX3_ring_43 : decode cX3_ring 43 = .ok (.return_, 1) := by decide +kernel
theorem dX3_ring_44 : decode cX3_ring 44 = .ok (.aload_n 0, 1) := by decide +kernel
theorem dX3_ring_45 : decode cX3_ring 45 = .ok (.getfield 28, 3) := by decide +kernel
theorem dX3_ring_48 : decode cX3_ring 48 = .ok (.dup, 1) := by decide +kernel
theorem dX3_ring_49 : decode cX3_ring 49 = .ok (.getfield 127, 3) := by decide +kernel
theorem dX3_ring_52 : decode cX3_ring 52 = .ok (.iconst 1, 1) := by decide +kernel
theorem dX3_ring_53 : decode cX3_ring 53 = .ok (.iadd, 1) := by decide +kernel
theorem dX3_ring_54 : decode cX3_ring 54 = .ok (.putfield 127, 3) := by decide +kernel
theorem dX3_ring_57 : decode cX3_ring 57 = .ok (.aload_n 0, 1) := by decide +kernel
theorem dX3_ring_58 : decode cX3_ring 58 = .ok (.getfield 28, 3) := by decide +kernel
theorem dX3_ring_61 : decode cX3_ring 61 = .ok (.getfield 127, 3) := by decide +kernel
theorem dX3_ring_64 : decode cX3_ring 64 = .ok (.bipush 8, 2) := by decide +kernel
theorem dX3_ring_66 : decode cX3_ring 66 = .ok (.if_icmp .le 10, 3) := by decide +kernel
theorem dX3_ring_69 : decode cX3_ring 69 = .ok (.aload_n 0, 1) := by decide +kernel
theorem dX3_ring_70 : decode cX3_ring 70 = .ok (.bipush 11, 2) := by decide +kernel
theorem dX3_ring_72 : decode cX3_ring 72 = .ok (.invokevirtual 92, 3) := by decide +kernel
theorem dX3_ring_75 : decode cX3_ring 75 = .ok (.return_, 1) := by decide +kernel
theorem dX3_ring_76 : decode cX3_ring 76 = .ok (.aload_n 0, 1) := by decide +kernel
theorem dX3_ring_77 : decode cX3_ring 77 = .ok (.getfield 12, 3) := by decide +kernel
theorem dX3_ring_80 : decode cX3_ring 80 = .ok (.invokevirtual 130, 3) := by decide +kernel
theorem dX3_ring_83 : decode cX3_ring 83 = .ok (.ifCond .ne 11, 3) := by decide +kernel
theorem dX3_ring_86 : decode cX3_ring 86 = .ok (.aload_n 0, 1) := by decide +kernel
theorem dX3_ring_87 : decode cX3_ring 87 = .ok (.iconst 1, 1) := by decide +kernel
theorem dX3_ring_88 : decode cX3_ring 88 = .ok (.putfield 68, 3) := by decide +kernel
theorem dX3_ring_91 : decode cX3_ring 91 = .ok (.goto 32, 3) := by decide +kernel
theorem dX3_ring_94 : decode cX3_ring 94 = .ok (.aload_n 0, 1) := by decide +kernel
theorem dX3_ring_95 : decode cX3_ring 95 = .ok (.getfield 32, 3) := by decide +kernel
theorem dX3_ring_98 : decode cX3_ring 98 = .ok (.iconst 2, 1) := by decide +kernel
theorem dX3_ring_99 : decode cX3_ring 99 = .ok (.if_icmp .eq 11, 3) := by decide +kernel
theorem dX3_ring_102 : decode cX3_ring 102 = .ok (.aload_n 0, 1) := by decide +kernel
theorem dX3_ring_103 : decode cX3_ring 103 = .ok (.getfield 32, 3) := by decide +kernel
theorem dX3_ring_106 : decode cX3_ring 106 = .ok (.iconst 3, 1) := by decide +kernel
theorem dX3_ring_107 : decode cX3_ring 107 = .ok (.if_icmp .ne 11, 3) := by decide +kernel
theorem dX3_ring_110 : decode cX3_ring 110 = .ok (.aload_n 0, 1) := by decide +kernel
theorem dX3_ring_111 : decode cX3_ring 111 = .ok (.iconst 1, 1) := by decide +kernel
theorem dX3_ring_112 : decode cX3_ring 112 = .ok (.putfield 59, 3) := by decide +kernel
theorem dX3_ring_115 : decode cX3_ring 115 = .ok (.goto 8, 3) := by decide +kernel
theorem dX3_ring_118 : decode cX3_ring 118 = .ok (.aload_n 0, 1) := by decide +kernel
theorem dX3_ring_119 : decode cX3_ring 119 = .ok (.iconst 1, 1) := by decide +kernel
theorem dX3_ring_120 : decode cX3_ring 120 = .ok (.putfield 65, 3) := by decide +kernel
theorem dX3_ring_123 : decode cX3_ring 123 = .ok (.aload_n 0, 1) := by decide +kernel
theorem dX3_ring_124 : decode cX3_ring 124 = .ok (.getfield 28, 3) := by decide +kernel
theorem dX3_ring_127 : decode cX3_ring 127 = .ok (.sipush 1200, 3) := by decide +kernel
theorem dX3_ring_130 : decode cX3_ring 130 = .ok (.iconst 2, 1) := by decide +kernel
theorem dX3_ring_131 : decode cX3_ring 131 = .ok (.aload_n 0, 1) := by decide +kernel
theorem dX3_ring_132 : decode cX3_ring 132 = .ok (.getfield 28, 3) := by decide +kernel
theorem dX3_ring_135 : decode cX3_ring 135 = .ok (.getfield 133, 3) := by decide +kernel
theorem dX3_ring_138 : decode cX3_ring 138 = .ok (.imul, 1) := by decide +kernel
theorem dX3_ring_139 : decode cX3_ring 139 = .ok (.invokestatic 110, 3) := by decide +kernel
theorem dX3_ring_142 : decode cX3_ring 142 = .ok (.putfield 133, 3) := by decide +kernel
theorem dX3_ring_145 : decode cX3_ring 145 = .ok (.aload_n 0, 1) := by decide +kernel
theorem dX3_ring_146 : decode cX3_ring 146 = .ok (.getfield 28, 3) := by decide +kernel
theorem dX3_ring_149 : decode cX3_ring 149 = .ok (.iload_n 1, 1) := by decide +kernel
theorem dX3_ring_150 : decode cX3_ring 150 = .ok (.aload_n 0, 1) := by decide +kernel
theorem dX3_ring_151 : decode cX3_ring 151 = .ok (.getfield 28, 3) := by decide +kernel
theorem dX3_ring_154 : decode cX3_ring 154 = .ok (.getfield 133, 3) := by decide +kernel
theorem dX3_ring_157 : decode cX3_ring 157 = .ok (.iadd, 1) := by decide +kernel
theorem dX3_ring_158 : decode cX3_ring 158 = .ok (.putfield 89, 3) := by decide +kernel
theorem dX3_ring_161 : decode cX3_ring 161 = .ok (.return_, 1) := by decide +kernel
theorem dX3_armProbe_0 : decode cX3_armProbe 0 = .ok (.aload_n 0, 1) := by decide +kernel
theorem dX3_armProbe_1 : decode cX3_armProbe 1 = .ok (.getfield 28, 3) := by decide +kernel
theorem dX3_armProbe_4 : decode cX3_armProbe 4 = .ok (.getfield 89, 3) := by decide +kernel
theorem dX3_armProbe_7 : decode cX3_armProbe 7 = .ok (.ifCond .ne 20, 3) := by decide +kernel
theorem dX3_armProbe_10 : decode cX3_armProbe 10 = .ok (.aload_n 0, 1) := by decide +kernel
theorem dX3_armProbe_11 : decode cX3_armProbe 11 = .ok (.invokevirtual 136, 3) := by decide +kernel
theorem dX3_armProbe_14 : decode cX3_armProbe 14 = .ok (.ifCond .eq 13, 3) := by decide +kernel
theorem dX3_armProbe_17 : decode cX3_armProbe 17 = .ok (.aload_n 0, 1) := by decide +kernel
theorem dX3_armProbe_18 : decode cX3_armProbe 18 = .ok (.getfield 12, 3) := by decide +kernel
theorem dX3_armProbe_21 : decode cX3_armProbe 21 = .ok (.invokevirtual 130, 3) := by decide +kernel
theorem dX3_armProbe_24 : decode cX3_armProbe 24 = .ok (.ifCond .eq 4, 3) := by decide +kernel
theorem dX3_armProbe_27 : decode cX3_armProbe 27 = .ok (.return_, 1) := by decide +kernel
theorem dX3_armProbe_28 : decode cX3_armProbe 28 = .ok (.aload_n 0, 1) := by decide +kernel
theorem dX3_armProbe_29 : decode cX3_armProbe 29 = .ok (.getfield 12, 3) := by decide +kernel
theorem dX3_armProbe_32 : decode cX3_armProbe 32 = .ok (.getfield 139, 3) := by decide +kernel
theorem dX3_armProbe_35 : decode cX3_armProbe 35 = .ok (.ifCond .ne 29, 3) := by decide +kernel
theorem dX3_armProbe_38 : decode cX3_armProbe 38 = .ok (.aload_n 0, 1) := by decide +kernel
theorem dX3_armProbe_39 : decode cX3_armProbe 39 = .ok (.getfield 12, 3) := by decide +kernel
theorem dX3_armProbe_42 : decode cX3_armProbe 42 = .ok (.invokevirtual 142, 3) := by decide +kernel
theorem dX3_armProbe_45 : decode cX3_armProbe 45 = .ok (.ifCond .eq 19, 3) := by decide +kernel
theorem dX3_armProbe_48 : decode cX3_armProbe 48 = .ok (.aload_n 0, 1) := by decide +kernel
theorem dX3_armProbe_49 : decode cX3_armProbe 49 = .ok (.getfield 28, 3) := by decide +kernel
theorem dX3_armProbe_52 : decode cX3_armProbe 52 = .ok (.iload_n 1, 1) := by decide +kernel
theorem dX3_armProbe_53 : decode cX3_armProbe 53 = .ok (.aload_n 0, 1) := by decide +kernel
theorem dX3_armProbe_54 : decode cX3_armProbe 54 = .ok (.getfield 28, 3) := by decide +kernel
theorem dX3_armProbe_57 : decode cX3_armProbe 57 = .ok (.getfield 133, 3) := by decide +kernel
theorem dX3_armProbe_60 : decode cX3_armProbe 60 = .ok (.iadd, 1) := by decide +kernel
theorem dX3_armProbe_61 : decode cX3_armProbe 61 = .ok (.putfield 89, 3) := by decide +kernel
theorem dX3_armProbe_64 : decode cX3_armProbe 64 = .ok (.return_, 1) := by decide +kernel
theorem dX3_resets_0 : decode cX3_resets 0 = .ok (.aload_n 1, 1) := by decide +kernel
theorem dX3_resets_1 : decode cX3_resets 1 = .ok (.iconst 4, 1) := by decide +kernel
theorem dX3_resets_2 : decode cX3_resets 2 = .ok (.invokevirtual 145, 3) := by decide +kernel
theorem dX3_resets_5 : decode cX3_resets 5 = .ok (.ifCond .eq 4, 3) := by decide +kernel
theorem dX3_resets_8 : decode cX3_resets 8 = .ok (.return_, 1) := by decide +kernel
theorem dX3_resets_9 : decode cX3_resets 9 = .ok (.aload_n 0, 1) := by decide +kernel
theorem dX3_resets_10 : decode cX3_resets 10 = .ok (.iconst 1, 1) := by decide +kernel
theorem dX3_resets_11 : decode cX3_resets 11 = .ok (.putfield 46, 3) := by decide +kernel
theorem dX3_resets_14 : decode cX3_resets 14 = .ok (.aload_n 0, 1) := by decide +kernel
theorem dX3_resets_15 : decode cX3_resets 15 = .ok (.aload_n 1, 1) := by decide +kernel
theorem dX3_resets_16 : decode cX3_resets 16 = .ok (.invokevirtual 151, 3) := by decide +kernel
theorem dX3_resets_19 : decode cX3_resets 19 = .ok (.putfield 98, 3) := by decide +kernel
theorem dX3_resets_22 : decode cX3_resets 22 = .ok (.aload_n 0, 1) := by decide +kernel
theorem dX3_resets_23 : decode cX3_resets 23 = .ok (.aload_n 1, 1) := by decide +kernel
theorem dX3_resets_24 : decode cX3_resets 24 = .ok (.invokevirtual 153, 3) := by decide +kernel
theorem dX3_resets_27 : decode cX3_resets 27 = .ok (.putfield 101, 3) := by decide +kernel
theorem dX3_resets_30 : decode cX3_resets 30 = .ok (.aload_n 0, 1) := by decide +kernel
theorem dX3_resets_31 : decode cX3_resets 31 = .ok (.aload_n 1, 1) := by decide +kernel
theorem dX3_resets_32 : decode cX3_resets 32 = .ok (.invokevirtual 155, 3) := by decide +kernel
theorem dX3_resets_35 : decode cX3_resets 35 = .ok (.putfield 107, 3) := by decide +kernel
theorem dX3_resets_38 : decode cX3_resets 38 = .ok (.return_, 1) := by decide +kernel
theorem dX3_takeOpen_0 : decode cX3_takeOpen 0 = .ok (.aload_n 1, 1) := by decide +kernel
theorem dX3_takeOpen_1 : decode cX3_takeOpen 1 = .ok (.getfield 157, 3) := by decide +kernel
theorem dX3_takeOpen_4 : decode cX3_takeOpen 4 = .ok (.istore_n 2, 1) := by decide +kernel
theorem dX3_takeOpen_5 : decode cX3_takeOpen 5 = .ok (.aload_n 0, 1) := by decide +kernel
theorem dX3_takeOpen_6 : decode cX3_takeOpen 6 = .ok (.getfield 21, 3) := by decide +kernel
theorem dX3_takeOpen_9 : decode cX3_takeOpen 9 = .ok (.aload_n 1, 1) := by decide +kernel
theorem dX3_takeOpen_10 : decode cX3_takeOpen 10 = .ok (.getfield 160, 3) := by decide +kernel
theorem dX3_takeOpen_13 : decode cX3_takeOpen 13 = .ok (.iconst 1, 1) := by decide +kernel
theorem dX3_takeOpen_14 : decode cX3_takeOpen 14 = .ok (.iadd, 1) := by decide +kernel
theorem dX3_takeOpen_15 : decode cX3_takeOpen 15 = .ok (.putfield 104, 3) := by decide +kernel
theorem dX3_takeOpen_18 : decode cX3_takeOpen 18 = .ok (.aload_n 0, 1) := by decide +kernel
theorem dX3_takeOpen_19 : decode cX3_takeOpen 19 = .ok (.aload_n 0, 1) := by decide +kernel
theorem dX3_takeOpen_20 : decode cX3_takeOpen 20 = .ok (.getfield 36, 3) := by decide +kernel
theorem dX3_takeOpen_23 : decode cX3_takeOpen 23 = .ok (.iload_n 2, 1) := by decide +kernel
theorem dX3_takeOpen_24 : decode cX3_takeOpen 24 = .ok (.ifCond .ne 9, 3) := by decide +kernel
theorem dX3_takeOpen_27 : decode cX3_takeOpen 27 = .ok (.sipush 536, 3) := by decide +kernel
theorem dX3_takeOpen_30 : decode cX3_takeOpen 30 = .ok (.goto 4, 3) := by decide +kernel
theorem dX3_takeOpen_33 : decode cX3_takeOpen 33 = .ok (.iload_n 2, 1) := by decide +kernel
theorem dX3_takeOpen_34 : decode cX3_takeOpen 34 = .ok (.invokestatic 110, 3) := by decide +kernel
theorem dX3_takeOpen_37 : decode cX3_takeOpen 37 = .ok (.putfield 53, 3) := by decide +kernel
theorem dX3_takeOpen_40 : decode cX3_takeOpen 40 = .ok (.aload_n 0, 1) := by decide +kernel
theorem dX3_takeOpen_41 : decode cX3_takeOpen 41 = .ok (.getfield 12, 3) := by decide +kernel
theorem dX3_takeOpen_44 : decode cX3_takeOpen 44 = .ok (.aload_n 1, 1) := by decide +kernel
theorem dX3_takeOpen_45 : decode cX3_takeOpen 45 = .ok (.aload_n 1, 1) := by decide +kernel
theorem dX3_takeOpen_46 : decode cX3_takeOpen 46 = .ok (.bipush 8, 2) := by decide +kernel
theorem dX3_takeOpen_48 : decode cX3_takeOpen 48 = .ok (.invokevirtual 145, 3) := by decide +kernel
theorem dX3_takeOpen_51 : decode cX3_takeOpen 51 = .ok (.ifCond .eq 10, 3) := by decide +kernel
theorem dX3_takeOpen_54 : decode cX3_takeOpen 54 = .ok (.aload_n 1, 1) := by decide +kernel
theorem dX3_takeOpen_55 : decode cX3_takeOpen 55 = .ok (.getfield 161, 3) := by decide +kernel
theorem dX3_takeOpen_58 : decode cX3_takeOpen 58 = .ok (.goto 10, 3) := by decide +kernel
theorem dX3_takeOpen_61 : decode cX3_takeOpen 61 = .ok (.aload_n 0, 1) := by decide +kernel
theorem dX3_takeOpen_62 : decode cX3_takeOpen 62 = .ok (.getfield 12, 3) := by decide +kernel
theorem dX3_takeOpen_65 : decode cX3_takeOpen 65 = .ok (.getfield 83, 3) := by decide +kernel
theorem dX3_takeOpen_68 : decode cX3_takeOpen 68 = .ok (.invokevirtual 164, 3) := by decide +kernel
theorem dX3_takeOpen_71 : decode cX3_takeOpen 71 = .ok (.aload_n 0, 1) := by decide +kernel
theorem dX3_takeOpen_72 : decode cX3_takeOpen 72 = .ok (.aload_n 1, 1) := by decide +kernel
theorem dX3_takeOpen_73 : decode cX3_takeOpen 73 = .ok (.getfield 168, 3) := by decide +kernel
theorem dX3_takeOpen_76 : decode cX3_takeOpen 76 = .ok (.putfield 74, 3) := by decide +kernel
theorem dX3_takeOpen_79 : decode cX3_takeOpen 79 = .ok (.return_, 1) := by decide +kernel
theorem dX3_takeListening_0 : decode cX3_takeListening 0 = .ok (.aload_n 1, 1) := by decide +kernel
theorem dX3_takeListening_1 : decode cX3_takeListening 1 = .ok (.iconst 4, 1) := by decide +kernel
theorem dX3_takeListening_2 : decode cX3_takeListening 2 = .ok (.invokevirtual 145, 3) := by decide +kernel
theorem dX3_takeListening_5 : decode cX3_takeListening 5 = .ok (.ifCond .eq 4, 3) := by decide +kernel
theorem dX3_takeListening_8 : decode cX3_takeListening 8 = .ok (.return_, 1) := by decide +kernel
theorem dX3_takeListening_9 : decode cX3_takeListening 9 = .ok (.aload_n 1, 1) := by decide +kernel
theorem dX3_takeListening_10 : decode cX3_takeListening 10 = .ok (.bipush 8, 2) := by decide +kernel
theorem dX3_takeListening_12 : decode cX3_takeListening 12 = .ok (.invokevirtual 145, 3) := by decide +kernel
theorem dX3_takeListening_15 : decode cX3_takeListening 15 = .ok (.ifCond .eq 9, 3) := by decide +kernel
theorem dX3_takeListening_18 : decode cX3_takeListening 18 = .ok (.aload_n 0, 1) := by decide +kernel
theorem dX3_takeListening_19 : decode cX3_takeListening 19 = .ok (.aload_n 1, 1) := by decide +kernel
theorem dX3_takeListening_20 : decode cX3_takeListening 20 = .ok (.invokevirtual 169, 3) := by decide +kernel
theorem dX3_takeListening_23 : decode cX3_takeListening 23 = .ok (.return_, 1) := by decide +kernel
theorem dX3_takeListening_24 : decode cX3_takeListening 24 = .ok (.aload_n 1, 1) := by decide +kernel
theorem dX3_takeListening_25 : decode cX3_takeListening 25 = .ok (.iconst 1, 1) := by decide +kernel
theorem dX3_takeListening_26 : decode cX3_takeListening 26 = .ok (.invokevirtual 145, 3) := by decide +kernel
theorem dX3_takeListening_29 : decode cX3_takeListening 29 = .ok (.ifCond .ne 4, 3) := by decide +kernel
theorem dX3_takeListening_32 : decode cX3_takeListening 32 = .ok (.return_, 1) := by decide +kernel
theorem dX3_takeListening_33 : decode cX3_takeListening 33 = .ok (.aload_n 0, 1) := by decide +kernel
theorem dX3_takeListening_34 : decode cX3_takeListening 34 = .ok (.aload_n 1, 1) := by decide +kernel
theorem dX3_takeListening_35 : decode cX3_takeListening 35 = .ok (.invokevirtual 173, 3) := by decide +kernel
theorem dX3_takeListening_38 : decode cX3_takeListening 38 = .ok (.aload_n 0, 1) := by decide +kernel
theorem dX3_takeListening_39 : decode cX3_takeListening 39 = .ok (.iconst 3, 1) := by decide +kernel
theorem dX3_takeListening_40 : decode cX3_takeListening 40 = .ok (.putfield 32, 3) := by decide +kernel
theorem dX3_takeListening_43 : decode cX3_takeListening 43 = .ok (.aload_n 0, 1) := by decide +kernel
theorem dX3_takeListening_44 : decode cX3_takeListening 44 = .ok (.getfield 12, 3) := by decide +kernel
theorem dX3_takeListening_47 : decode cX3_takeListening 47 = .ok (.aload_n 0, 1) := by decide +kernel
theorem dX3_takeListening_48 : decode cX3_takeListening 48 = .ok (.getfield 12, 3) := by decide +kernel
theorem dX3_takeListening_51 : decode cX3_takeListening 51 = .ok (.getfield 83, 3) := by decide +kernel
theorem dX3_takeListening_54 : decode cX3_takeListening 54 = .ok (.iconst 1, 1) := by decide +kernel
theorem dX3_takeListening_55 : decode cX3_takeListening 55 = .ok (.iadd, 1) := by decide +kernel
theorem dX3_takeListening_56 : decode cX3_takeListening 56 = .ok (.putfield 86, 3) := by decide +kernel
theorem dX3_takeListening_59 : decode cX3_takeListening 59 = .ok (.aload_n 0, 1) := by decide +kernel
theorem dX3_takeListening_60 : decode cX3_takeListening 60 = .ok (.iconst 1, 1) := by decide +kernel
theorem dX3_takeListening_61 : decode cX3_takeListening 61 = .ok (.putfield 59, 3) := by decide +kernel
theorem dX3_takeListening_64 : decode cX3_takeListening 64 = .ok (.return_, 1) := by decide +kernel
theorem dX3_takeAsking_0 : decode cX3_takeAsking 0 = .ok (.aload_n 1, 1) := by decide +kernel
theorem dX3_takeAsking_1 : decode cX3_takeAsking 1 = .ok (.bipush 8, 2) := by decide +kernel
theorem dX3_takeAsking_3 : decode cX3_takeAsking 3 = .ok (.invokevirtual 145, 3) := by decide +kernel
theorem dX3_takeAsking_6 : decode cX3_takeAsking 6 = .ok (.istore_n 3, 1) := by decide +kernel
theorem dX3_takeAsking_7 : decode cX3_takeAsking 7 = .ok (.iload_n 3, 1) := by decide +kernel
theorem dX3_takeAsking_8 : decode cX3_takeAsking 8 = .ok (.ifCond .eq 23, 3) := by decide +kernel
theorem dX3_takeAsking_11 : decode cX3_takeAsking 11 = .ok (.aload_n 1, 1) := by decide +kernel
theorem dX3_takeAsking_12 : decode cX3_takeAsking 12 = .ok (.getfield 161, 3) := by decide +kernel
theorem dX3_takeAsking_15 : decode cX3_takeAsking 15 = .ok (.aload_n 0, 1) := by decide +kernel
theorem dX3_takeAsking_16 : decode cX3_takeAsking 16 = .ok (.getfield 12, 3) := by decide +kernel
theorem dX3_takeAsking_19 : decode cX3_takeAsking 19 = .ok (.getfield 86, 3) := by decide +kernel
theorem dX3_takeAsking_22 : decode cX3_takeAsking 22 = .ok (.if_icmp .eq 9, 3) := by decide +kernel
theorem dX3_takeAsking_25 : decode cX3_takeAsking 25 = .ok (.aload_n 0, 1) := by decide +kernel
theorem dX3_takeAsking_26 : decode cX3_takeAsking 26 = .ok (.aload_n 1, 1) := by decide +kernel
theorem dX3_takeAsking_27 : decode cX3_takeAsking 27 = .ok (.invokevirtual 169, 3) := by decide +kernel
theorem dX3_takeAsking_30 : decode cX3_takeAsking 30 = .ok (.return_, 1) := by decide +kernel
theorem dX3_takeAsking_31 : decode cX3_takeAsking 31 = .ok (.aload_n 1, 1) := by decide +kernel
theorem dX3_takeAsking_32 : decode cX3_takeAsking 32 = .ok (.iconst 4, 1) := by decide +kernel
theorem dX3_takeAsking_33 : decode cX3_takeAsking 33 = .ok (.invokevirtual 145, 3) := by decide +kernel
theorem dX3_takeAsking_36 : decode cX3_takeAsking 36 = .ok (.ifCond .eq 14, 3) := by decide +kernel
theorem dX3_takeAsking_39 : decode cX3_takeAsking 39 = .ok (.iload_n 3, 1) := by decide +kernel
theorem dX3_takeAsking_40 : decode cX3_takeAsking 40 = .ok (.ifCond .eq 9, 3) := by decide +kernel
theorem dX3_takeAsking_43 : decode cX3_takeAsking 43 = .ok (.aload_n 0, 1) := by decide +kernel
theorem dX3_takeAsking_44 : decode cX3_takeAsking 44 = .ok (.bipush 11, 2) := by decide +kernel
theorem dX3_takeAsking_46 : decode cX3_takeAsking 46 = .ok (.invokevirtual 92, 3) := by decide +kernel
theorem dX3_takeAsking_49 : decode cX3_takeAsking 49 = .ok (.return_, 1) := by decide +kernel
theorem dX3_takeAsking_50 : decode cX3_takeAsking 50 = .ok (.aload_n 1, 1) := by decide +kernel
theorem dX3_takeAsking_51 : decode cX3_takeAsking 51 = .ok (.iconst 1, 1) := by decide +kernel
theorem dX3_takeAsking_52 : decode cX3_takeAsking 52 = .ok (.invokevirtual 145, 3) := by decide +kernel
theorem dX3_takeAsking_55 : decode cX3_takeAsking 55 = .ok (.ifCond .ne 4, 3) := by decide +kernel
theorem dX3_takeAsking_58 : decode cX3_takeAsking 58 = .ok (.return_, 1) := by decide +kernel
theorem dX3_takeAsking_59 : decode cX3_takeAsking 59 = .ok (.aload_n 0, 1) := by decide +kernel
theorem dX3_takeAsking_60 : decode cX3_takeAsking 60 = .ok (.aload_n 1, 1) := by decide +kernel
theorem dX3_takeAsking_61 : decode cX3_takeAsking 61 = .ok (.invokevirtual 173, 3) := by decide +kernel
theorem dX3_takeAsking_64 : decode cX3_takeAsking 64 = .ok (.iload_n 3, 1) := by decide +kernel
theorem dX3_takeAsking_65 : decode cX3_takeAsking 65 = .ok (.ifCond .eq 30, 3) := by decide +kernel
theorem dX3_takeAsking_68 : decode cX3_takeAsking 68 = .ok (.aload_n 0, 1) := by decide +kernel
theorem dX3_takeAsking_69 : decode cX3_takeAsking 69 = .ok (.iconst 4, 1) := by decide +kernel
theorem dX3_takeAsking_70 : decode cX3_takeAsking 70 = .ok (.putfield 32, 3) := by decide +kernel
theorem dX3_takeAsking_73 : decode cX3_takeAsking 73 = .ok (.aload_n 0, 1) := by decide +kernel
theorem dX3_takeAsking_74 : decode cX3_takeAsking 74 = .ok (.iconst 0, 1) := by decide +kernel
theorem dX3_takeAsking_75 : decode cX3_takeAsking 75 = .ok (.putfield 59, 3) := by decide +kernel
theorem dX3_takeAsking_78 : decode cX3_takeAsking 78 = .ok (.aload_n 0, 1) := by decide +kernel
theorem dX3_takeAsking_79 : decode cX3_takeAsking 79 = .ok (.aload_n 1, 1) := by decide +kernel
theorem dX3_takeAsking_80 : decode cX3_takeAsking 80 = .ok (.getfield 161, 3) := by decide +kernel
theorem dX3_takeAsking_83 : decode cX3_takeAsking 83 = .ok (.iload_n 2, 1) := by decide +kernel
theorem dX3_takeAsking_84 : decode cX3_takeAsking 84 = .ok (.invokevirtual 176, 3) := by decide +kernel
theorem dX3_takeAsking_87 : decode cX3_takeAsking 87 = .ok (.aload_n 0, 1) := by decide +kernel
theorem dX3_takeAsking_88 : decode cX3_takeAsking 88 = .ok (.iconst 1, 1) := by decide +kernel
theorem dX3_takeAsking_89 : decode cX3_takeAsking 89 = .ok (.putfield 71, 3) := by decide +kernel
theorem dX3_takeAsking_92 : decode cX3_takeAsking 92 = .ok (.goto 13, 3) := by decide +kernel
theorem dX3_takeAsking_95 : decode cX3_takeAsking 95 = .ok (.aload_n 0, 1) := by decide +kernel
theorem dX3_takeAsking_96 : decode cX3_takeAsking 96 = .ok (.iconst 3, 1) := by decide +kernel
theorem dX3_takeAsking_97 : decode cX3_takeAsking 97 = .ok (.putfield 32, 3) := by decide +kernel
theorem dX3_takeAsking_100 : decode cX3_takeAsking 100 = .ok (.aload_n 0, 1) := by decide +kernel
theorem dX3_takeAsking_101 : decode cX3_takeAsking 101 = .ok (.iconst 1, 1) := by decide +kernel
theorem dX3_takeAsking_102 : decode cX3_takeAsking 102 = .ok (.putfield 59, 3) := by decide +kernel
theorem dX3_takeAsking_105 : decode cX3_takeAsking 105 = .ok (.return_, 1) := by decide +kernel
theorem dX3_goesOn_0 : decode cX3_goesOn 0 = .ok (.aload_n 0, 1) := by decide +kernel
theorem dX3_goesOn_1 : decode cX3_goesOn 1 = .ok (.getfield 21, 3) := by decide +kernel
theorem dX3_goesOn_4 : decode cX3_goesOn 4 = .ok (.aload_n 1, 1) := by decide +kernel
theorem dX3_goesOn_5 : decode cX3_goesOn 5 = .ok (.getfield 160, 3) := by decide +kernel
theorem dX3_goesOn_8 : decode cX3_goesOn 8 = .ok (.aload_n 1, 1) := by decide +kernel
theorem dX3_goesOn_9 : decode cX3_goesOn 9 = .ok (.invokevirtual 180, 3) := by decide +kernel
theorem dX3_goesOn_12 : decode cX3_goesOn 12 = .ok (.invokevirtual 183, 3) := by decide +kernel
theorem dX3_goesOn_15 : decode cX3_goesOn 15 = .ok (.ifCond .ne 44, 3) := by decide +kernel
theorem dX3_goesOn_18 : decode cX3_goesOn 18 = .ok (.aload_n 1, 1) := by decide +kernel
theorem dX3_goesOn_19 : decode cX3_goesOn 19 = .ok (.iconst 4, 1) := by decide +kernel
theorem dX3_goesOn_20 : decode cX3_goesOn 20 = .ok (.invokevirtual 145, 3) := by decide +kernel
theorem dX3_goesOn_23 : decode cX3_goesOn 23 = .ok (.ifCond .ne 8, 3) := by decide +kernel
theorem dX3_goesOn_26 : decode cX3_goesOn 26 = .ok (.aload_n 0, 1) := by decide +kernel
theorem dX3_goesOn_27 : decode cX3_goesOn 27 = .ok (.iconst 1, 1) := by decide +kernel
theorem dX3_goesOn_28 : decode cX3_goesOn 28 = .ok (.putfield 71, 3) := by decide +kernel
theorem dX3_goesOn_31 : decode cX3_goesOn 31 = .ok (.aload_n 0, 1) := by decide +kernel
theorem dX3_goesOn_32 : decode cX3_goesOn 32 = .ok (.getfield 32, 3) := by decide +kernel
theorem dX3_goesOn_35 : decode cX3_goesOn 35 = .ok (.bipush 10, 2) := by decide +kernel
theorem dX3_goesOn_37 : decode cX3_goesOn 37 = .ok (.if_icmp .ne 20, 3) := by decide +kernel
theorem dX3_goesOn_40 : decode cX3_goesOn 40 = .ok (.aload_n 1, 1) := by decide +kernel
theorem dX3_goesOn_41 : decode cX3_goesOn 41 = .ok (.iconst 2, 1) := by decide +kernel
theorem dX3_goesOn_42 : decode cX3_goesOn 42 = .ok (.invokevirtual 145, 3) := by decide +kernel
theorem dX3_goesOn_45 : decode cX3_goesOn 45 = .ok (.ifCond .eq 12, 3) := by decide +kernel
theorem dX3_goesOn_48 : decode cX3_goesOn 48 = .ok (.aload_n 0, 1) := by decide +kernel
theorem dX3_goesOn_49 : decode cX3_goesOn 49 = .ok (.iload_n 2, 1) := by decide +kernel
theorem dX3_goesOn_50 : decode cX3_goesOn 50 = .ok (.sipush 2000, 3) := by decide +kernel
theorem dX3_goesOn_53 : decode cX3_goesOn 53 = .ok (.iadd, 1) := by decide +kernel
theorem dX3_goesOn_54 : decode cX3_goesOn 54 = .ok (.putfield 56, 3) := by decide +kernel
theorem dX3_goesOn_57 : decode cX3_goesOn 57 = .ok (.iconst 0, 1) := by decide +kernel
theorem dX3_goesOn_58 : decode cX3_goesOn 58 = .ok (.ireturn, 1) := by decide +kernel
theorem dX3_goesOn_59 : decode cX3_goesOn 59 = .ok (.aload_n 1, 1) := by decide +kernel
theorem dX3_goesOn_60 : decode cX3_goesOn 60 = .ok (.iconst 4, 1) := by decide +kernel
theorem dX3_goesOn_61 : decode cX3_goesOn 61 = .ok (.invokevirtual 145, 3) := by decide +kernel
theorem dX3_goesOn_64 : decode cX3_goesOn 64 = .ok (.ifCond .eq 31, 3) := by decide +kernel
theorem dX3_goesOn_67 : decode cX3_goesOn 67 = .ok (.aload_n 1, 1) := by decide +kernel
theorem dX3_goesOn_68 : decode cX3_goesOn 68 = .ok (.getfield 160, 3) := by decide +kernel
theorem dX3_goesOn_71 : decode cX3_goesOn 71 = .ok (.aload_n 0, 1) := by decide +kernel
theorem dX3_goesOn_72 : decode cX3_goesOn 72 = .ok (.getfield 21, 3) := by decide +kernel
theorem dX3_goesOn_75 : decode cX3_goesOn 75 = .ok (.getfield 104, 3) := by decide +kernel
theorem dX3_goesOn_78 : decode cX3_goesOn 78 = .ok (.if_icmp .ne 10, 3) := by decide +kernel
theorem dX3_goesOn_81 : decode cX3_goesOn 81 = .ok (.aload_n 0, 1) := by decide +kernel
theorem dX3_goesOn_82 : decode cX3_goesOn 82 = .ok (.invokevirtual 187, 3) := by decide +kernel
theorem dX3_goesOn_85 : decode cX3_goesOn 85 = .ok (.goto 8, 3) := by decide +kernel
theorem dX3_goesOn_88 : decode cX3_goesOn 88 = .ok (.aload_n 0, 1) := by decide +kernel
theorem dX3_goesOn_89 : decode cX3_goesOn 89 = .ok (.iconst 1, 1) := by decide +kernel
theorem dX3_goesOn_90 : decode cX3_goesOn 90 = .ok (.putfield 71, 3) := by decide +kernel
theorem dX3_goesOn_93 : decode cX3_goesOn 93 = .ok (.iconst 0, 1) := by decide +kernel
theorem dX3_goesOn_94 : decode cX3_goesOn 94 = .ok (.ireturn, 1) := by decide +kernel
theorem dX3_goesOn_95 : decode cX3_goesOn 95 = .ok (.aload_n 1, 1) := by decide +kernel
theorem dX3_goesOn_96 : decode cX3_goesOn 96 = .ok (.iconst 1, 1) := by decide +kernel
theorem dX3_goesOn_97 : decode cX3_goesOn 97 = .ok (.invokevirtual 145, 3) := by decide +kernel
theorem dX3_goesOn_100 : decode cX3_goesOn 100 = .ok (.ifCond .eq 10, 3) := by decide +kernel
theorem dX3_goesOn_103 : decode cX3_goesOn 103 = .ok (.aload_n 0, 1) := by decide +kernel
theorem dX3_goesOn_104 : decode cX3_goesOn 104 = .ok (.iconst 1, 1) := by decide +kernel
theorem dX3_goesOn_105 : decode cX3_goesOn 105 = .ok (.putfield 71, 3) := by decide +kernel
theorem dX3_goesOn_108 : decode cX3_goesOn 108 = .ok (.iconst 0, 1) := by decide +kernel
theorem dX3_goesOn_109 : decode cX3_goesOn 109 = .ok (.ireturn, 1) := by decide +kernel
theorem dX3_goesOn_110 : decode cX3_goesOn 110 = .ok (.aload_n 1, 1) := by decide +kernel
theorem dX3_goesOn_111 : decode cX3_goesOn 111 = .ok (.bipush 8, 2) := by decide +kernel
theorem dX3_goesOn_113 : decode cX3_goesOn 113 = .ok (.invokevirtual 145, 3) := by decide +kernel
theorem dX3_goesOn_116 : decode cX3_goesOn 116 = .ok (.ifCond .ne 5, 3) := by decide +kernel
theorem dX3_goesOn_119 : decode cX3_goesOn 119 = .ok (.iconst 0, 1) := by decide +kernel
theorem dX3_goesOn_120 : decode cX3_goesOn 120 = .ok (.ireturn, 1) := by decide +kernel
theorem dX3_goesOn_121 : decode cX3_goesOn 121 = .ok (.aload_n 0, 1) := by decide +kernel
theorem dX3_goesOn_122 : decode cX3_goesOn 122 = .ok (.getfield 32, 3) := by decide +kernel
theorem dX3_goesOn_125 : decode cX3_goesOn 125 = .ok (.iconst 3, 1) := by decide +kernel
theorem dX3_goesOn_126 : decode cX3_goesOn 126 = .ok (.if_icmp .ne 51, 3) := by decide +kernel
theorem dX3_goesOn_129 : decode cX3_goesOn 129 = .ok (.aload_n 1, 1) := by decide +kernel
theorem dX3_goesOn_130 : decode cX3_goesOn 130 = .ok (.getfield 161, 3) := by decide +kernel
theorem dX3_goesOn_133 : decode cX3_goesOn 133 = .ok (.aload_n 0, 1) := by decide +kernel
theorem dX3_goesOn_134 : decode cX3_goesOn 134 = .ok (.getfield 12, 3) := by decide +kernel
theorem dX3_goesOn_137 : decode cX3_goesOn 137 = .ok (.getfield 86, 3) := by decide +kernel
theorem dX3_goesOn_140 : decode cX3_goesOn 140 = .ok (.if_icmp .eq 10, 3) := by decide +kernel
theorem dX3_goesOn_143 : decode cX3_goesOn 143 = .ok (.aload_n 0, 1) := by decide +kernel
theorem dX3_goesOn_144 : decode cX3_goesOn 144 = .ok (.aload_n 1, 1) := by decide +kernel
theorem dX3_goesOn_145 : decode cX3_goesOn 145 = .ok (.invokevirtual 169, 3) := by decide +kernel
theorem dX3_goesOn_148 : decode cX3_goesOn 148 = .ok (.iconst 0, 1) := by decide +kernel
theorem dX3_goesOn_149 : decode cX3_goesOn 149 = .ok (.ireturn, 1) := by decide +kernel
theorem dX3_goesOn_150 : decode cX3_goesOn 150 = .ok (.aload_n 0, 1) := by decide +kernel
theorem dX3_goesOn_151 : decode cX3_goesOn 151 = .ok (.aload_n 0, 1) := by decide +kernel
theorem dX3_goesOn_152 : decode cX3_goesOn 152 = .ok (.getfield 12, 3) := by decide +kernel
theorem dX3_goesOn_155 : decode cX3_goesOn 155 = .ok (.getfield 95, 3) := by decide +kernel
theorem dX3_goesOn_158 : decode cX3_goesOn 158 = .ok (.ifCond .eq 7, 3) := by decide +kernel
theorem dX3_goesOn_161 : decode cX3_goesOn 161 = .ok (.iconst 5, 1) := by decide +kernel
theorem dX3_goesOn_162 : decode cX3_goesOn 162 = .ok (.goto 4, 3) := by decide +kernel
theorem dX3_goesOn_165 : decode cX3_goesOn 165 = .ok (.iconst 4, 1) := by decide +kernel
theorem dX3_goesOn_166 : decode cX3_goesOn 166 = .ok (.putfield 32, 3) := by decide +kernel
theorem dX3_goesOn_169 : decode cX3_goesOn 169 = .ok (.aload_n 0, 1) := by decide +kernel
theorem dX3_goesOn_170 : decode cX3_goesOn 170 = .ok (.iconst 0, 1) := by decide +kernel
theorem dX3_goesOn_171 : decode cX3_goesOn 171 = .ok (.putfield 59, 3) := by decide +kernel
theorem dX3_goesOn_174 : decode cX3_goesOn 174 = .ok (.goto 27, 3) := by decide +kernel
theorem dX3_goesOn_177 : decode cX3_goesOn 177 = .ok (.aload_n 0, 1) := by decide +kernel
theorem dX3_goesOn_178 : decode cX3_goesOn 178 = .ok (.getfield 12, 3) := by decide +kernel
theorem dX3_goesOn_181 : decode cX3_goesOn 181 = .ok (.getfield 86, 3) := by decide +kernel
theorem dX3_goesOn_184 : decode cX3_goesOn 184 = .ok (.aload_n 1, 1) := by decide +kernel
theorem dX3_goesOn_185 : decode cX3_goesOn 185 = .ok (.getfield 161, 3) := by decide +kernel
theorem dX3_goesOn_188 : decode cX3_goesOn 188 = .ok (.invokestatic 190, 3) := by decide +kernel
theorem dX3_goesOn_191 : decode cX3_goesOn 191 = .ok (.ifCond .eq 10, 3) := by decide +kernel
theorem dX3_goesOn_194 : decode cX3_goesOn 194 = .ok (.aload_n 0, 1) := by decide +kernel
theorem dX3_goesOn_195 : decode cX3_goesOn 195 = .ok (.iconst 1, 1) := by decide +kernel
theorem dX3_goesOn_196 : decode cX3_goesOn 196 = .ok (.putfield 71, 3) := by decide +kernel
theorem dX3_goesOn_199 : decode cX3_goesOn 199 = .ok (.iconst 0, 1) := by decide +kernel
theorem dX3_goesOn_200 : decode cX3_goesOn 200 = .ok (.ireturn, 1) := by decide +kernel
theorem dX3_goesOn_201 : decode cX3_goesOn 201 = .ok (.iconst 1, 1) := by decide +kernel
theorem dX3_goesOn_202 : decode cX3_goesOn 202 = .ok (.ireturn, 1) := by decide +kernel
theorem dX3_takeReset_0 : decode cX3_takeReset 0 = .ok (.aload_n 0, 1) := by decide +kernel
theorem dX3_takeReset_1 : decode cX3_takeReset 1 = .ok (.getfield 32, 3) := by decide +kernel
theorem dX3_takeReset_4 : decode cX3_takeReset 4 = .ok (.iconst 3, 1) := by decide +kernel
theorem dX3_takeReset_5 : decode cX3_takeReset 5 = .ok (.if_icmp .ne 24, 3) := by decide +kernel
theorem dX3_takeReset_8 : decode cX3_takeReset 8 = .ok (.aload_n 0, 1) := by decide +kernel
theorem dX3_takeReset_9 : decode cX3_takeReset 9 = .ok (.getfield 39, 3) := by decide +kernel
theorem dX3_takeReset_12 : decode cX3_takeReset 12 = .ok (.ifCond .eq 17, 3) := by decide +kernel
theorem dX3_takeReset_15 : decode cX3_takeReset 15 = .ok (.aload_n 0, 1) := by decide +kernel
theorem dX3_takeReset_16 : decode cX3_takeReset 16 = .ok (.aload_n 0, 1) := by decide +kernel
theorem dX3_takeReset_17 : decode cX3_takeReset 17 = .ok (.getfield 12, 3) := by decide +kernel
theorem dX3_takeReset_20 : decode cX3_takeReset 20 = .ok (.getfield 83, 3) := by decide +kernel
theorem dX3_takeReset_23 : decode cX3_takeReset 23 = .ok (.invokevirtual 49, 3) := by decide +kernel
theorem dX3_takeReset_26 : decode cX3_takeReset 26 = .ok (.goto 31, 3) := by decide +kernel
theorem dX3_takeReset_29 : decode cX3_takeReset 29 = .ok (.aload_n 0, 1) := by decide +kernel
theorem dX3_takeReset_30 : decode cX3_takeReset 30 = .ok (.aload_n 0, 1) := by decide +kernel
theorem dX3_takeReset_31 : decode cX3_takeReset 31 = .ok (.getfield 32, 3) := by decide +kernel
theorem dX3_takeReset_34 : decode cX3_takeReset 34 = .ok (.bipush 8, 2) := by decide +kernel
theorem dX3_takeReset_36 : decode cX3_takeReset 36 = .ok (.if_icmp .lt 16, 3) := by decide +kernel
theorem dX3_takeReset_39 : decode cX3_takeReset 39 = .ok (.aload_n 0, 1) := by decide +kernel
theorem dX3_takeReset_40 : decode cX3_takeReset 40 = .ok (.getfield 32, 3) := by decide +kernel
theorem dX3_takeReset_43 : decode cX3_takeReset 43 = .ok (.bipush 10, 2) := by decide +kernel
theorem dX3_takeReset_45 : decode cX3_takeReset 45 = .ok (.if_icmp .gt 7, 3) := by decide +kernel
theorem dX3_takeReset_48 : decode cX3_takeReset 48 = .ok (.iconst 0, 1) := by decide +kernel
theorem dX3_takeReset_49 : decode cX3_takeReset 49 = .ok (.goto 5, 3) := by decide +kernel
theorem dX3_takeReset_52 : decode cX3_takeReset 52 = .ok (.bipush 11, 2) := by decide +kernel
theorem dX3_takeReset_54 : decode cX3_takeReset 54 = .ok (.invokevirtual 92, 3) := by decide +kernel
theorem dX3_takeReset_57 : decode cX3_takeReset 57 = .ok (.return_, 1) := by decide +kernel
theorem dX3_takeRest_0 : decode cX3_takeRest 0 = .ok (.aload_n 1, 1) := by decide +kernel
theorem dX3_takeRest_1 : decode cX3_takeRest 1 = .ok (.getfield 161, 3) := by decide +kernel
theorem dX3_takeRest_4 : decode cX3_takeRest 4 = .ok (.istore_n 3, 1) := by decide +kernel
theorem dX3_takeRest_5 : decode cX3_takeRest 5 = .ok (.aload_n 0, 1) := by decide +kernel
theorem dX3_takeRest_6 : decode cX3_takeRest 6 = .ok (.getfield 12, 3) := by decide +kernel
theorem dX3_takeRest_9 : decode cX3_takeRest 9 = .ok (.getfield 193, 3) := by decide +kernel
theorem dX3_takeRest_12 : decode cX3_takeRest 12 = .ok (.iload_n 3, 1) := by decide +kernel
theorem dX3_takeRest_13 : decode cX3_takeRest 13 = .ok (.invokestatic 190, 3) := by decide +kernel
theorem dX3_takeRest_16 : decode cX3_takeRest 16 = .ok (.ifCond .eq 9, 3) := by decide +kernel
theorem dX3_takeRest_19 : decode cX3_takeRest 19 = .ok (.aload_n 0, 1) := by decide +kernel
theorem dX3_takeRest_20 : decode cX3_takeRest 20 = .ok (.iload_n 3, 1) := by decide +kernel
theorem dX3_takeRest_21 : decode cX3_takeRest 21 = .ok (.iload_n 2, 1) := by decide +kernel
theorem dX3_takeRest_22 : decode cX3_takeRest 22 = .ok (.invokevirtual 176, 3) := by decide +kernel
theorem dX3_takeRest_25 : decode cX3_takeRest 25 = .ok (.aload_n 0, 1) := by decide +kernel
theorem dX3_takeRest_26 : decode cX3_takeRest 26 = .ok (.aload_n 1, 1) := by decide +kernel
theorem dX3_takeRest_27 : decode cX3_takeRest 27 = .ok (.iload_n 3, 1) := by decide +kernel
theorem dX3_takeRest_28 : decode cX3_takeRest 28 = .ok (.invokevirtual 196, 3) := by decide +kernel
theorem dX3_takeRest_31 : decode cX3_takeRest 31 = .ok (.aload_n 0, 1) := by decide +kernel
theorem dX3_takeRest_32 : decode cX3_takeRest 32 = .ok (.getfield 12, 3) := by decide +kernel
theorem dX3_takeRest_35 : decode cX3_takeRest 35 = .ok (.getfield 199, 3) := by decide +kernel
theorem dX3_takeRest_38 : decode cX3_takeRest 38 = .ok (.ifCond .eq 52, 3) := by decide +kernel
theorem dX3_takeRest_41 : decode cX3_takeRest 41 = .ok (.aload_n 0, 1) := by decide +kernel
theorem dX3_takeRest_42 : decode cX3_takeRest 42 = .ok (.getfield 32, 3) := by decide +kernel
theorem dX3_takeRest_45 : decode cX3_takeRest 45 = .ok (.iconst 5, 1) := by decide +kernel
theorem dX3_takeRest_46 : decode cX3_takeRest 46 = .ok (.if_icmp .ne 12, 3) := by decide +kernel
theorem dX3_takeRest_49 : decode cX3_takeRest 49 = .ok (.aload_n 0, 1) := by decide +kernel
theorem dX3_takeRest_50 : decode cX3_takeRest 50 = .ok (.bipush 6, 2) := by decide +kernel
theorem dX3_takeRest_52 : decode cX3_takeRest 52 = .ok (.putfield 32, 3) := by decide +kernel
theorem dX3_takeRest_55 : decode cX3_takeRest 55 = .ok (.goto 35, 3) := by decide +kernel
theorem dX3_takeRest_58 : decode cX3_takeRest 58 = .ok (.aload_n 0, 1) := by decide +kernel
theorem dX3_takeRest_59 : decode cX3_takeRest 59 = .ok (.getfield 32, 3) := by decide +kernel
theorem dX3_takeRest_62 : decode cX3_takeRest 62 = .ok (.bipush 8, 2) := by decide +kernel
theorem dX3_takeRest_64 : decode cX3_takeRest 64 = .ok (.if_icmp .ne 11, 3) := by decide +kernel
theorem dX3_takeRest_67 : decode cX3_takeRest 67 = .ok (.aload_n 0, 1) := by decide +kernel
theorem dX3_takeRest_68 : decode cX3_takeRest 68 = .ok (.iload_n 2, 1) := by decide +kernel
theorem dX3_takeRest_69 : decode cX3_takeRest 69 = .ok (.invokevirtual 202, 3) := by decide +kernel
theorem dX3_takeRest_72 : decode cX3_takeRest 72 = .ok (.goto 18, 3) := by decide +kernel
theorem dX3_takeRest_75 : decode cX3_takeRest 75 = .ok (.aload_n 0, 1) := by decide +kernel
theorem dX3_takeRest_76 : decode cX3_takeRest 76 = .ok (.getfield 32, 3) := by decide +kernel
theorem dX3_takeRest_79 : decode cX3_takeRest 79 = .ok (.bipush 9, 2) := by decide +kernel
theorem dX3_takeRest_81 : decode cX3_takeRest 81 = .ok (.if_icmp .ne 9, 3) := by decide +kernel
theorem dX3_takeRest_84 : decode cX3_takeRest 84 = .ok (.aload_n 0, 1) := by decide +kernel
theorem dX3_takeRest_85 : decode cX3_takeRest 85 = .ok (.iconst 0, 1) := by decide +kernel
theorem dX3_takeRest_86 : decode cX3_takeRest 86 = .ok (.invokevirtual 92, 3) := by decide +kernel
theorem dX3_takeRest_89 : decode cX3_takeRest 89 = .ok (.return_, 1) := by decide +kernel
theorem dX3_takeRest_90 : decode cX3_takeRest 90 = .ok (.aload_n 0, 1) := by decide +kernel
theorem dX3_takeRest_91 : decode cX3_takeRest 91 = .ok (.invokevirtual 123, 3) := by decide +kernel
theorem dX3_takeRest_94 : decode cX3_takeRest 94 = .ok (.ifCond .eq 26, 3) := by decide +kernel
theorem dX3_takeRest_97 : decode cX3_takeRest 97 = .ok (.aload_n 0, 1) := by decide +kernel
theorem dX3_takeRest_98 : decode cX3_takeRest 98 = .ok (.getfield 21, 3) := by decide +kernel
theorem dX3_takeRest_101 : decode cX3_takeRest 101 = .ok (.aload_n 1, 1) := by decide +kernel
theorem dX3_takeRest_102 : decode cX3_takeRest 102 = .ok (.invokevirtual 205, 3) := by decide +kernel
theorem dX3_takeRest_105 : decode cX3_takeRest 105 = .ok (.aload_n 0, 1) := by decide +kernel
theorem dX3_takeRest_106 : decode cX3_takeRest 106 = .ok (.getfield 21, 3) := by decide +kernel
theorem dX3_takeRest_109 : decode cX3_takeRest 109 = .ok (.getfield 208, 3) := by decide +kernel
theorem dX3_takeRest_112 : decode cX3_takeRest 112 = .ok (.ifCond .eq 8, 3) := by decide +kernel
theorem dX3_takeRest_115 : decode cX3_takeRest 115 = .ok (.aload_n 0, 1) := by decide +kernel
theorem dX3_takeRest_116 : decode cX3_takeRest 116 = .ok (.iload_n 2, 1) := by decide +kernel
theorem dX3_takeRest_117 : decode cX3_takeRest 117 = .ok (.invokevirtual 211, 3) := by decide +kernel
theorem dX3_takeRest_120 : decode cX3_takeRest 120 = .ok (.aload_n 1, 1) := by decide +kernel
theorem dX3_takeRest_121 : decode cX3_takeRest 121 = .ok (.invokevirtual 214, 3) := by decide +kernel
theorem dX3_takeRest_124 : decode cX3_takeRest 124 = .ok (.ifCond .gt 11, 3) := by decide +kernel
theorem dX3_takeRest_127 : decode cX3_takeRest 127 = .ok (.aload_n 1, 1) := by decide +kernel
theorem dX3_takeRest_128 : decode cX3_takeRest 128 = .ok (.iconst 2, 1) := by decide +kernel
theorem dX3_takeRest_129 : decode cX3_takeRest 129 = .ok (.invokevirtual 145, 3) := by decide +kernel
theorem dX3_takeRest_132 : decode cX3_takeRest 132 = .ok (.ifCond .eq 8, 3) := by decide +kernel
theorem dX3_takeRest_135 : decode cX3_takeRest 135 = .ok (.aload_n 0, 1) := by decide +kernel
theorem dX3_takeRest_136 : decode cX3_takeRest 136 = .ok (.iconst 1, 1) := by decide +kernel
theorem dX3_takeRest_137 : decode cX3_takeRest 137 = .ok (.putfield 71, 3) := by decide +kernel
theorem dX3_takeRest_140 : decode cX3_takeRest 140 = .ok (.return_, 1) := by decide +kernel
theorem dX3_thankedTo_0 : decode cX3_thankedTo 0 = .ok (.aload_n 0, 1) := by decide +kernel
theorem dX3_thankedTo_1 : decode cX3_thankedTo 1 = .ok (.getfield 12, 3) := by decide +kernel
theorem dX3_thankedTo_4 : decode cX3_thankedTo 4 = .ok (.iload_n 1, 1) := by decide +kernel
theorem dX3_thankedTo_5 : decode cX3_thankedTo 5 = .ok (.invokevirtual 217, 3) := by decide +kernel
theorem dX3_thankedTo_8 : decode cX3_thankedTo 8 = .ok (.aload_n 0, 1) := by decide +kernel
theorem dX3_thankedTo_9 : decode cX3_thankedTo 9 = .ok (.getfield 28, 3) := by decide +kernel
theorem dX3_thankedTo_12 : decode cX3_thankedTo 12 = .ok (.iload_n 1, 1) := by decide +kernel
theorem dX3_thankedTo_13 : decode cX3_thankedTo 13 = .ok (.iload_n 2, 1) := by decide +kernel
theorem dX3_thankedTo_14 : decode cX3_thankedTo 14 = .ok (.invokevirtual 220, 3) := by decide +kernel
theorem dX3_thankedTo_17 : decode cX3_thankedTo 17 = .ok (.aload_n 0, 1) := by decide +kernel
theorem dX3_thankedTo_18 : decode cX3_thankedTo 18 = .ok (.getfield 28, 3) := by decide +kernel
theorem dX3_thankedTo_21 : decode cX3_thankedTo 21 = .ok (.aload_n 0, 1) := by decide +kernel
theorem dX3_thankedTo_22 : decode cX3_thankedTo 22 = .ok (.getfield 12, 3) := by decide +kernel
theorem dX3_thankedTo_25 : decode cX3_thankedTo 25 = .ok (.invokevirtual 130, 3) := by decide +kernel
theorem dX3_thankedTo_28 : decode cX3_thankedTo 28 = .ok (.ifCond .eq 15, 3) := by decide +kernel
theorem dX3_thankedTo_31 : decode cX3_thankedTo 31 = .ok (.iload_n 2, 1) := by decide +kernel
theorem dX3_thankedTo_32 : decode cX3_thankedTo 32 = .ok (.aload_n 0, 1) := by decide +kernel
theorem dX3_thankedTo_33 : decode cX3_thankedTo 33 = .ok (.getfield 28, 3) := by decide +kernel
theorem dX3_thankedTo_36 : decode cX3_thankedTo 36 = .ok (.getfield 133, 3) := by decide +kernel
theorem dX3_thankedTo_39 : decode cX3_thankedTo 39 = .ok (.iadd, 1) := by decide +kernel
theorem dX3_thankedTo_40 : decode cX3_thankedTo 40 = .ok (.goto 4, 3) := by decide +kernel
theorem dX3_thankedTo_43 : decode cX3_thankedTo 43 = .ok (.iconst 0, 1) := by decide +kernel
theorem dX3_thankedTo_44 : decode cX3_thankedTo 44 = .ok (.putfield 89, 3) := by decide +kernel
theorem dX3_thankedTo_47 : decode cX3_thankedTo 47 = .ok (.aload_n 0, 1) := by decide +kernel
theorem dX3_thankedTo_48 : decode cX3_thankedTo 48 = .ok (.iconst 0, 1) := by decide +kernel
theorem dX3_thankedTo_49 : decode cX3_thankedTo 49 = .ok (.putfield 65, 3) := by decide +kernel
theorem dX3_thankedTo_52 : decode cX3_thankedTo 52 = .ok (.return_, 1) := by decide +kernel
theorem dX3_takeWindow_0 : decode cX3_takeWindow 0 = .ok (.aload_n 1, 1) := by decide +kernel
theorem dX3_takeWindow_1 : decode cX3_takeWindow 1 = .ok (.getfield 160, 3) := by decide +kernel
theorem dX3_takeWindow_4 : decode cX3_takeWindow 4 = .ok (.istore_n 3, 1) := by decide +kernel
theorem dX3_takeWindow_5 : decode cX3_takeWindow 5 = .ok (.iload_n 2, 1) := by decide +kernel
theorem dX3_takeWindow_6 : decode cX3_takeWindow 6 = .ok (.aload_n 0, 1) := by decide +kernel
theorem dX3_takeWindow_7 : decode cX3_takeWindow 7 = .ok (.getfield 12, 3) := by decide +kernel
theorem dX3_takeWindow_10 : decode cX3_takeWindow 10 = .ok (.getfield 193, 3) := by decide +kernel
theorem dX3_takeWindow_13 : decode cX3_takeWindow 13 = .ok (.invokestatic 190, 3) := by decide +kernel
theorem dX3_takeWindow_16 : decode cX3_takeWindow 16 = .ok (.ifCond .eq 4, 3) := by decide +kernel
theorem dX3_takeWindow_19 : decode cX3_takeWindow 19 = .ok (.return_, 1) := by decide +kernel
theorem dX3_takeWindow_20 : decode cX3_takeWindow 20 = .ok (.aload_n 0, 1) := by decide +kernel
theorem dX3_takeWindow_21 : decode cX3_takeWindow 21 = .ok (.getfield 12, 3) := by decide +kernel
theorem dX3_takeWindow_24 : decode cX3_takeWindow 24 = .ok (.getfield 222, 3) := by decide +kernel
theorem dX3_takeWindow_27 : decode cX3_takeWindow 27 = .ok (.iload_n 3, 1) := by decide +kernel
theorem dX3_takeWindow_28 : decode cX3_takeWindow 28 = .ok (.invokestatic 190, 3) := by decide +kernel
theorem dX3_takeWindow_31 : decode cX3_takeWindow 31 = .ok (.ifCond .ne 28, 3) := by decide +kernel
theorem dX3_takeWindow_34 : decode cX3_takeWindow 34 = .ok (.aload_n 0, 1) := by decide +kernel
theorem dX3_takeWindow_35 : decode cX3_takeWindow 35 = .ok (.getfield 12, 3) := by decide +kernel
theorem dX3_takeWindow_38 : decode cX3_takeWindow 38 = .ok (.getfield 222, 3) := by decide +kernel
theorem dX3_takeWindow_41 : decode cX3_takeWindow 41 = .ok (.iload_n 3, 1) := by decide +kernel
theorem dX3_takeWindow_42 : decode cX3_takeWindow 42 = .ok (.if_icmp .ne 21, 3) := by decide +kernel
theorem dX3_takeWindow_45 : decode cX3_takeWindow 45 = .ok (.iload_n 2, 1) := by decide +kernel
theorem dX3_takeWindow_46 : decode cX3_takeWindow 46 = .ok (.aload_n 0, 1) := by decide +kernel
theorem dX3_takeWindow_47 : decode cX3_takeWindow 47 = .ok (.getfield 12, 3) := by decide +kernel
theorem dX3_takeWindow_50 : decode cX3_takeWindow 50 = .ok (.getfield 225, 3) := by decide +kernel
theorem dX3_takeWindow_53 : decode cX3_takeWindow 53 = .ok (.invokestatic 190, 3) := by decide +kernel
theorem dX3_takeWindow_56 : decode cX3_takeWindow 56 = .ok (.ifCond .ne 7, 3) := by decide +kernel
theorem dX3_takeWindow_59 : decode cX3_takeWindow 59 = .ok (.iconst 1, 1) := by decide +kernel
theorem dX3_takeWindow_60 : decode cX3_takeWindow 60 = .ok (.goto 4, 3) := by decide +kernel
theorem dX3_takeWindow_63 : decode cX3_takeWindow 63 = .ok (.iconst 0, 1) := by decide +kernel
theorem dX3_takeWindow_64 : decode cX3_takeWindow 64 = .ok (.istore 4, 2) := by decide +kernel
theorem dX3_takeWindow_66 : decode cX3_takeWindow 66 = .ok (.iload 4, 2) := by decide +kernel
theorem dX3_takeWindow_68 : decode cX3_takeWindow 68 = .ok (.ifCond .ne 4, 3) := by decide +kernel
theorem dX3_takeWindow_71 : decode cX3_takeWindow 71 = .ok (.return_, 1) := by decide +kernel
theorem dX3_takeWindow_72 : decode cX3_takeWindow 72 = .ok (.aload_n 0, 1) := by decide +kernel
theorem dX3_takeWindow_73 : decode cX3_takeWindow 73 = .ok (.getfield 12, 3) := by decide +kernel
theorem dX3_takeWindow_76 : decode cX3_takeWindow 76 = .ok (.getfield 139, 3) := by decide +kernel
theorem dX3_takeWindow_79 : decode cX3_takeWindow 79 = .ok (.ifCond .ne 7, 3) := by decide +kernel
theorem dX3_takeWindow_82 : decode cX3_takeWindow 82 = .ok (.iconst 1, 1) := by decide +kernel
theorem dX3_takeWindow_83 : decode cX3_takeWindow 83 = .ok (.goto 4, 3) := by decide +kernel
theorem dX3_takeWindow_86 : decode cX3_takeWindow 86 = .ok (.iconst 0, 1) := by decide +kernel
theorem dX3_takeWindow_87 : decode cX3_takeWindow 87 = .ok (.istore 5, 2) := by decide +kernel
theorem dX3_takeWindow_89 : decode cX3_takeWindow 89 = .ok (.aload_n 0, 1) := by decide +kernel
theorem dX3_takeWindow_90 : decode cX3_takeWindow 90 = .ok (.getfield 12, 3) := by decide +kernel
theorem dX3_takeWindow_93 : decode cX3_takeWindow 93 = .ok (.aload_n 1, 1) := by decide +kernel
theorem dX3_takeWindow_94 : decode cX3_takeWindow 94 = .ok (.iload_n 2, 1) := by decide +kernel
theorem dX3_takeWindow_95 : decode cX3_takeWindow 95 = .ok (.invokevirtual 164, 3) := by decide +kernel
theorem dX3_takeWindow_98 : decode cX3_takeWindow 98 = .ok (.aload_n 0, 1) := by decide +kernel
theorem dX3_takeWindow_99 : decode cX3_takeWindow 99 = .ok (.getfield 12, 3) := by decide +kernel
theorem dX3_takeWindow_102 : decode cX3_takeWindow 102 = .ok (.getfield 139, 3) := by decide +kernel
theorem dX3_takeWindow_105 : decode cX3_takeWindow 105 = .ok (.ifCond .eq 8, 3) := by decide +kernel
theorem dX3_takeWindow_108 : decode cX3_takeWindow 108 = .ok (.iload 5, 2) := by decide +kernel
theorem dX3_takeWindow_110 : decode cX3_takeWindow 110 = .ok (.ifCond .eq 11, 3) := by decide +kernel
theorem dX3_takeWindow_113 : decode cX3_takeWindow 113 = .ok (.aload_n 0, 1) := by decide +kernel
theorem dX3_takeWindow_114 : decode cX3_takeWindow 114 = .ok (.getfield 28, 3) := by decide +kernel
theorem dX3_takeWindow_117 : decode cX3_takeWindow 117 = .ok (.iconst 0, 1) := by decide +kernel
theorem dX3_takeWindow_118 : decode cX3_takeWindow 118 = .ok (.putfield 127, 3) := by decide +kernel
theorem dX3_takeWindow_121 : decode cX3_takeWindow 121 = .ok (.aload_n 0, 1) := by decide +kernel
theorem dX3_takeWindow_122 : decode cX3_takeWindow 122 = .ok (.getfield 12, 3) := by decide +kernel
theorem dX3_takeWindow_125 : decode cX3_takeWindow 125 = .ok (.getfield 139, 3) := by decide +kernel
theorem dX3_takeWindow_128 : decode cX3_takeWindow 128 = .ok (.ifCond .eq 31, 3) := by decide +kernel
theorem dX3_takeWindow_131 : decode cX3_takeWindow 131 = .ok (.iload 5, 2) := by decide +kernel
theorem dX3_takeWindow_133 : decode cX3_takeWindow 133 = .ok (.ifCond .eq 26, 3) := by decide +kernel
theorem dX3_takeWindow_136 : decode cX3_takeWindow 136 = .ok (.aload_n 0, 1) := by decide +kernel
theorem dX3_takeWindow_137 : decode cX3_takeWindow 137 = .ok (.iconst 0, 1) := by decide +kernel
theorem dX3_takeWindow_138 : decode cX3_takeWindow 138 = .ok (.putfield 68, 3) := by decide +kernel
theorem dX3_takeWindow_141 : decode cX3_takeWindow 141 = .ok (.aload_n 0, 1) := by decide +kernel
theorem dX3_takeWindow_142 : decode cX3_takeWindow 142 = .ok (.getfield 12, 3) := by decide +kernel
theorem dX3_takeWindow_145 : decode cX3_takeWindow 145 = .ok (.invokevirtual 130, 3) := by decide +kernel
theorem dX3_takeWindow_148 : decode cX3_takeWindow 148 = .ok (.ifCond .ne 11, 3) := by decide +kernel
theorem dX3_takeWindow_151 : decode cX3_takeWindow 151 = .ok (.aload_n 0, 1) := by decide +kernel
theorem dX3_takeWindow_152 : decode cX3_takeWindow 152 = .ok (.getfield 28, 3) := by decide +kernel
theorem dX3_takeWindow_155 : decode cX3_takeWindow 155 = .ok (.iconst 0, 1) := by decide +kernel
theorem dX3_takeWindow_156 : decode cX3_takeWindow 156 = .ok (.putfield 89, 3) := by decide +kernel
theorem dX3_takeWindow_159 : decode cX3_takeWindow 159 = .ok (.return_, 1) := by decide +kernel
theorem dX3_peerLeft_0 : decode cX3_peerLeft 0 = .ok (.aload_n 0, 1) := by decide +kernel
theorem dX3_peerLeft_1 : decode cX3_peerLeft 1 = .ok (.getfield 32, 3) := by decide +kernel
theorem dX3_peerLeft_4 : decode cX3_peerLeft 4 = .ok (.iconst 4, 1) := by decide +kernel
theorem dX3_peerLeft_5 : decode cX3_peerLeft 5 = .ok (.if_icmp .ne 12, 3) := by decide +kernel
theorem dX3_peerLeft_8 : decode cX3_peerLeft 8 = .ok (.aload_n 0, 1) := by decide +kernel
theorem dX3_peerLeft_9 : decode cX3_peerLeft 9 = .ok (.bipush 7, 2) := by decide +kernel
theorem dX3_peerLeft_11 : decode cX3_peerLeft 11 = .ok (.putfield 32, 3) := by decide +kernel
theorem dX3_peerLeft_14 : decode cX3_peerLeft 14 = .ok (.goto 25, 3) := by decide +kernel
theorem dX3_peerLeft_17 : decode cX3_peerLeft 17 = .ok (.aload_n 0, 1) := by decide +kernel
theorem dX3_peerLeft_18 : decode cX3_peerLeft 18 = .ok (.getfield 32, 3) := by decide +kernel
theorem dX3_peerLeft_21 : decode cX3_peerLeft 21 = .ok (.iconst 5, 1) := by decide +kernel
theorem dX3_peerLeft_22 : decode cX3_peerLeft 22 = .ok (.if_icmp .ne 12, 3) := by decide +kernel
theorem dX3_peerLeft_25 : decode cX3_peerLeft 25 = .ok (.aload_n 0, 1) := by decide +kernel
theorem dX3_peerLeft_26 : decode cX3_peerLeft 26 = .ok (.bipush 8, 2) := by decide +kernel
theorem dX3_peerLeft_28 : decode cX3_peerLeft 28 = .ok (.putfield 32, 3) := by decide +kernel
theorem dX3_peerLeft_31 : decode cX3_peerLeft 31 = .ok (.goto 8, 3) := by decide +kernel
theorem dX3_peerLeft_34 : decode cX3_peerLeft 34 = .ok (.aload_n 0, 1) := by decide +kernel
theorem dX3_peerLeft_35 : decode cX3_peerLeft 35 = .ok (.iload_n 1, 1) := by decide +kernel
theorem dX3_peerLeft_36 : decode cX3_peerLeft 36 = .ok (.invokevirtual 202, 3) := by decide +kernel
theorem dX3_peerLeft_39 : decode cX3_peerLeft 39 = .ok (.return_, 1) := by decide +kernel
theorem dX3_makeNext_0 : decode cX3_makeNext 0 = .ok (.aload_n 0, 1) := by decide +kernel
theorem dX3_makeNext_1 : decode cX3_makeNext 1 = .ok (.getfield 46, 3) := by decide +kernel
theorem dX3_makeNext_4 : decode cX3_makeNext 4 = .ok (.ifCond .eq 27, 3) := by decide +kernel
theorem dX3_makeNext_7 : decode cX3_makeNext 7 = .ok (.aload_n 0, 1) := by decide +kernel
theorem dX3_makeNext_8 : decode cX3_makeNext 8 = .ok (.iconst 0, 1) := by decide +kernel
theorem dX3_makeNext_9 : decode cX3_makeNext 9 = .ok (.putfield 46, 3) := by decide +kernel
theorem dX3_makeNext_12 : decode cX3_makeNext 12 = .ok (.aload_n 1, 1) := by decide +kernel
theorem dX3_makeNext_13 : decode cX3_makeNext 13 = .ok (.aload_n 0, 1) := by decide +kernel
theorem dX3_makeNext_14 : decode cX3_makeNext 14 = .ok (.getfield 98, 3) := by decide +kernel
theorem dX3_makeNext_17 : decode cX3_makeNext 17 = .ok (.aload_n 0, 1) := by decide +kernel
theorem dX3_makeNext_18 : decode cX3_makeNext 18 = .ok (.getfield 101, 3) := by decide +kernel
theorem dX3_makeNext_21 : decode cX3_makeNext 21 = .ok (.aload_n 0, 1) := by decide +kernel
theorem dX3_makeNext_22 : decode cX3_makeNext 22 = .ok (.getfield 107, 3) := by decide +kernel
theorem dX3_makeNext_25 : decode cX3_makeNext 25 = .ok (.iconst 0, 1) := by decide +kernel
theorem dX3_makeNext_26 : decode cX3_makeNext 26 = .ok (.invokevirtual 228, 3) := by decide +kernel
theorem dX3_makeNext_29 : decode cX3_makeNext 29 = .ok (.iconst 1, 1) := by decide +kernel
theorem dX3_makeNext_30 : decode cX3_makeNext 30 = .ok (.ireturn, 1) := by decide +kernel
theorem dX3_makeNext_31 : decode cX3_makeNext 31 = .ok (.aload_n 0, 1) := by decide +kernel
theorem dX3_makeNext_32 : decode cX3_makeNext 32 = .ok (.getfield 59, 3) := by decide +kernel
theorem dX3_makeNext_35 : decode cX3_makeNext 35 = .ok (.ifCond .eq 11, 3) := by decide +kernel
theorem dX3_makeNext_38 : decode cX3_makeNext 38 = .ok (.aload_n 0, 1) := by decide +kernel
theorem dX3_makeNext_39 : decode cX3_makeNext 39 = .ok (.aload_n 1, 1) := by decide +kernel
theorem dX3_makeNext_40 : decode cX3_makeNext 40 = .ok (.iload_n 2, 1) := by decide +kernel
theorem dX3_makeNext_41 : decode cX3_makeNext 41 = .ok (.invokevirtual 232, 3) := by decide +kernel
theorem dX3_makeNext_44 : decode cX3_makeNext 44 = .ok (.iconst 1, 1) := by decide +kernel
theorem dX3_makeNext_45 : decode cX3_makeNext 45 = .ok (.ireturn, 1) := by decide +kernel
theorem dX3_makeNext_46 : decode cX3_makeNext 46 = .ok (.aload_n 0, 1) := by decide +kernel
theorem dX3_makeNext_47 : decode cX3_makeNext 47 = .ok (.getfield 65, 3) := by decide +kernel
theorem dX3_makeNext_50 : decode cX3_makeNext 50 = .ok (.ifCond .eq 10, 3) := by decide +kernel
theorem dX3_makeNext_53 : decode cX3_makeNext 53 = .ok (.aload_n 0, 1) := by decide +kernel
theorem dX3_makeNext_54 : decode cX3_makeNext 54 = .ok (.aload_n 1, 1) := by decide +kernel
theorem dX3_makeNext_55 : decode cX3_makeNext 55 = .ok (.invokevirtual 235, 3) := by decide +kernel
theorem dX3_makeNext_58 : decode cX3_makeNext 58 = .ok (.iconst 1, 1) := by decide +kernel
theorem dX3_makeNext_59 : decode cX3_makeNext 59 = .ok (.ireturn, 1) := by decide +kernel
theorem dX3_makeNext_60 : decode cX3_makeNext 60 = .ok (.aload_n 0, 1) := by decide +kernel
theorem dX3_makeNext_61 : decode cX3_makeNext 61 = .ok (.invokevirtual 136, 3) := by decide +kernel
theorem dX3_makeNext_64 : decode cX3_makeNext 64 = .ok (.ifCond .eq 14, 3) := by decide +kernel
theorem dX3_makeNext_67 : decode cX3_makeNext 67 = .ok (.aload_n 0, 1) := by decide +kernel
theorem dX3_makeNext_68 : decode cX3_makeNext 68 = .ok (.aload_n 1, 1) := by decide +kernel
theorem dX3_makeNext_69 : decode cX3_makeNext 69 = .ok (.iload_n 2, 1) := by decide +kernel
theorem dX3_makeNext_70 : decode cX3_makeNext 70 = .ok (.invokevirtual 238, 3) := by decide +kernel
theorem dX3_makeNext_73 : decode cX3_makeNext 73 = .ok (.ifCond .eq 5, 3) := by decide +kernel
theorem dX3_makeNext_76 : decode cX3_makeNext 76 = .ok (.iconst 1, 1) := by decide +kernel
theorem dX3_makeNext_77 : decode cX3_makeNext 77 = .ok (.ireturn, 1) := by decide +kernel
theorem dX3_makeNext_78 : decode cX3_makeNext 78 = .ok (.aload_n 0, 1) := by decide +kernel
theorem dX3_makeNext_79 : decode cX3_makeNext 79 = .ok (.getfield 68, 3) := by decide +kernel
theorem dX3_makeNext_82 : decode cX3_makeNext 82 = .ok (.ifCond .eq 14, 3) := by decide +kernel
theorem dX3_makeNext_85 : decode cX3_makeNext 85 = .ok (.aload_n 0, 1) := by decide +kernel
theorem dX3_makeNext_86 : decode cX3_makeNext 86 = .ok (.aload_n 1, 1) := by decide +kernel
theorem dX3_makeNext_87 : decode cX3_makeNext 87 = .ok (.iload_n 2, 1) := by decide +kernel
theorem dX3_makeNext_88 : decode cX3_makeNext 88 = .ok (.invokevirtual 242, 3) := by decide +kernel
theorem dX3_makeNext_91 : decode cX3_makeNext 91 = .ok (.ifCond .eq 5, 3) := by decide +kernel
theorem dX3_makeNext_94 : decode cX3_makeNext 94 = .ok (.iconst 1, 1) := by decide +kernel
theorem dX3_makeNext_95 : decode cX3_makeNext 95 = .ok (.ireturn, 1) := by decide +kernel
theorem dX3_makeNext_96 : decode cX3_makeNext 96 = .ok (.aload_n 0, 1) := by decide +kernel
theorem dX3_makeNext_97 : decode cX3_makeNext 97 = .ok (.getfield 71, 3) := by decide +kernel
theorem dX3_makeNext_100 : decode cX3_makeNext 100 = .ok (.ifCond .ne 5, 3) := by decide +kernel
theorem dX3_makeNext_103 : decode cX3_makeNext 103 = .ok (.iconst 0, 1) := by decide +kernel
theorem dX3_makeNext_104 : decode cX3_makeNext 104 = .ok (.ireturn, 1) := by decide +kernel
theorem dX3_makeNext_105 : decode cX3_makeNext 105 = .ok (.aload_n 0, 1) := by decide +kernel
theorem dX3_makeNext_106 : decode cX3_makeNext 106 = .ok (.aload_n 1, 1) := by decide +kernel
theorem dX3_makeNext_107 : decode cX3_makeNext 107 = .ok (.aload_n 0, 1) := by decide +kernel
theorem dX3_makeNext_108 : decode cX3_makeNext 108 = .ok (.getfield 12, 3) := by decide +kernel
theorem dX3_makeNext_111 : decode cX3_makeNext 111 = .ok (.getfield 86, 3) := by decide +kernel
theorem dX3_makeNext_114 : decode cX3_makeNext 114 = .ok (.iconst 0, 1) := by decide +kernel
theorem dX3_makeNext_115 : decode cX3_makeNext 115 = .ok (.iconst 0, 1) := by decide +kernel
theorem dX3_makeNext_116 : decode cX3_makeNext 116 = .ok (.iconst 0, 1) := by decide +kernel
theorem dX3_makeNext_117 : decode cX3_makeNext 117 = .ok (.invokevirtual 245, 3) := by decide +kernel
theorem dX3_makeNext_120 : decode cX3_makeNext 120 = .ok (.iconst 1, 1) := by decide +kernel
theorem dX3_makeNext_121 : decode cX3_makeNext 121 = .ok (.ireturn, 1) := by decide +kernel
theorem dX3_makeOpen_0 : decode cX3_makeOpen 0 = .ok (.aload_n 0, 1) := by decide +kernel
theorem dX3_makeOpen_1 : decode cX3_makeOpen 1 = .ok (.getfield 32, 3) := by decide +kernel
theorem dX3_makeOpen_4 : decode cX3_makeOpen 4 = .ok (.iconst 3, 1) := by decide +kernel
theorem dX3_makeOpen_5 : decode cX3_makeOpen 5 = .ok (.if_icmp .ne 7, 3) := by decide +kernel
theorem dX3_makeOpen_8 : decode cX3_makeOpen 8 = .ok (.iconst 1, 1) := by decide +kernel
theorem dX3_makeOpen_9 : decode cX3_makeOpen 9 = .ok (.goto 4, 3) := by decide +kernel
theorem dX3_makeOpen_12 : decode cX3_makeOpen 12 = .ok (.iconst 0, 1) := by decide +kernel
theorem dX3_makeOpen_13 : decode cX3_makeOpen 13 = .ok (.istore_n 3, 1) := by decide +kernel
theorem dX3_makeOpen_14 : decode cX3_makeOpen 14 = .ok (.aload_n 0, 1) := by decide +kernel
theorem dX3_makeOpen_15 : decode cX3_makeOpen 15 = .ok (.iconst 0, 1) := by decide +kernel
theorem dX3_makeOpen_16 : decode cX3_makeOpen 16 = .ok (.putfield 59, 3) := by decide +kernel
theorem dX3_makeOpen_19 : decode cX3_makeOpen 19 = .ok (.aload_n 1, 1) := by decide +kernel
theorem dX3_makeOpen_20 : decode cX3_makeOpen 20 = .ok (.iload_n 3, 1) := by decide +kernel
theorem dX3_makeOpen_21 : decode cX3_makeOpen 21 = .ok (.ifCond .eq 8, 3) := by decide +kernel
theorem dX3_makeOpen_24 : decode cX3_makeOpen 24 = .ok (.bipush 9, 2) := by decide +kernel
theorem dX3_makeOpen_26 : decode cX3_makeOpen 26 = .ok (.goto 4, 3) := by decide +kernel
theorem dX3_makeOpen_29 : decode cX3_makeOpen 29 = .ok (.iconst 1, 1) := by decide +kernel
theorem dX3_makeOpen_30 : decode cX3_makeOpen 30 = .ok (.aload_n 0, 1) := by decide +kernel
theorem dX3_makeOpen_31 : decode cX3_makeOpen 31 = .ok (.getfield 12, 3) := by decide +kernel
theorem dX3_makeOpen_34 : decode cX3_makeOpen 34 = .ok (.getfield 83, 3) := by decide +kernel
theorem dX3_makeOpen_37 : decode cX3_makeOpen 37 = .ok (.iload_n 3, 1) := by decide +kernel
theorem dX3_makeOpen_38 : decode cX3_makeOpen 38 = .ok (.ifCond .eq 13, 3) := by decide +kernel
theorem dX3_makeOpen_41 : decode cX3_makeOpen 41 = .ok (.aload_n 0, 1) := by decide +kernel
theorem dX3_makeOpen_42 : decode cX3_makeOpen 42 = .ok (.getfield 21, 3) := by decide +kernel
theorem dX3_makeOpen_45 : decode cX3_makeOpen 45 = .ok (.getfield 104, 3) := by decide +kernel
theorem dX3_makeOpen_48 : decode cX3_makeOpen 48 = .ok (.goto 4, 3) := by decide +kernel
theorem dX3_makeOpen_51 : decode cX3_makeOpen 51 = .ok (.iconst 0, 1) := by decide +kernel
theorem dX3_makeOpen_52 : decode cX3_makeOpen 52 = .ok (.aload_n 0, 1) := by decide +kernel
theorem dX3_makeOpen_53 : decode cX3_makeOpen 53 = .ok (.getfield 21, 3) := by decide +kernel
theorem dX3_makeOpen_56 : decode cX3_makeOpen 56 = .ok (.invokevirtual 116, 3) := by decide +kernel
theorem dX3_makeOpen_59 : decode cX3_makeOpen 59 = .ok (.invokevirtual 228, 3) := by decide +kernel
theorem dX3_makeOpen_62 : decode cX3_makeOpen 62 = .ok (.aload_n 1, 1) := by decide +kernel
theorem dX3_makeOpen_63 : decode cX3_makeOpen 63 = .ok (.bipush 16, 2) := by decide +kernel
theorem dX3_makeOpen_65 : decode cX3_makeOpen 65 = .ok (.aload_n 0, 1) := by decide +kernel
theorem dX3_makeOpen_66 : decode cX3_makeOpen 66 = .ok (.getfield 36, 3) := by decide +kernel
theorem dX3_makeOpen_69 : decode cX3_makeOpen 69 = .ok (.invokevirtual 249, 3) := by decide +kernel
theorem dX3_makeOpen_72 : decode cX3_makeOpen 72 = .ok (.iload_n 3, 1) := by decide +kernel
theorem dX3_makeOpen_73 : decode cX3_makeOpen 73 = .ok (.ifCond .eq 8, 3) := by decide +kernel
theorem dX3_makeOpen_76 : decode cX3_makeOpen 76 = .ok (.aload_n 0, 1) := by decide +kernel
theorem dX3_makeOpen_77 : decode cX3_makeOpen 77 = .ok (.iconst 0, 1) := by decide +kernel
theorem dX3_makeOpen_78 : decode cX3_makeOpen 78 = .ok (.putfield 71, 3) := by decide +kernel
theorem dX3_makeOpen_81 : decode cX3_makeOpen 81 = .ok (.aload_n 0, 1) := by decide +kernel
theorem dX3_makeOpen_82 : decode cX3_makeOpen 82 = .ok (.getfield 62, 3) := by decide +kernel
theorem dX3_makeOpen_85 : decode cX3_makeOpen 85 = .ok (.ifCond .eq 11, 3) := by decide +kernel
theorem dX3_makeOpen_88 : decode cX3_makeOpen 88 = .ok (.aload_n 0, 1) := by decide +kernel
theorem dX3_makeOpen_89 : decode cX3_makeOpen 89 = .ok (.getfield 28, 3) := by decide +kernel
theorem dX3_makeOpen_92 : decode cX3_makeOpen 92 = .ok (.iconst 0, 1) := by decide +kernel
theorem dX3_makeOpen_93 : decode cX3_makeOpen 93 = .ok (.putfield 252, 3) := by decide +kernel
theorem dX3_makeOpen_96 : decode cX3_makeOpen 96 = .ok (.aload_n 0, 1) := by decide +kernel
theorem dX3_makeOpen_97 : decode cX3_makeOpen 97 = .ok (.getfield 62, 3) := by decide +kernel
theorem dX3_makeOpen_100 : decode cX3_makeOpen 100 = .ok (.ifCond .ne 21, 3) := by decide +kernel
theorem dX3_makeOpen_103 : decode cX3_makeOpen 103 = .ok (.aload_n 0, 1) := by decide +kernel
theorem dX3_makeOpen_104 : decode cX3_makeOpen 104 = .ok (.getfield 28, 3) := by decide +kernel
theorem dX3_makeOpen_107 : decode cX3_makeOpen 107 = .ok (.aload_n 0, 1) := by decide +kernel
theorem dX3_makeOpen_108 : decode cX3_makeOpen 108 = .ok (.getfield 12, 3) := by decide +kernel
theorem dX3_makeOpen_111 : decode cX3_makeOpen 111 = .ok (.getfield 86, 3) := by decide +kernel
theorem dX3_makeOpen_114 : decode cX3_makeOpen 114 = .ok (.iload_n 2, 1) := by decide +kernel
theorem dX3_makeOpen_115 : decode cX3_makeOpen 115 = .ok (.invokevirtual 255, 3) := by decide +kernel
theorem dX3_makeOpen_118 : decode cX3_makeOpen 118 = .ok (.goto 29, 3) := by decide +kernel
theorem dX3_makeOpen_121 : decode cX3_makeOpen 121 = .ok (.aload_n 0, 1) := by decide +kernel
theorem dX3_makeOpen_122 : decode cX3_makeOpen 122 = .ok (.getfield 28, 3) := by decide +kernel
theorem dX3_makeOpen_125 : decode cX3_makeOpen 125 = .ok (.getfield 89, 3) := by decide +kernel
theorem dX3_makeOpen_128 : decode cX3_makeOpen 128 = .ok (.ifCond .ne 19, 3) := by decide +kernel
theorem dX3_makeOpen_131 : decode cX3_makeOpen 131 = .ok (.aload_n 0, 1) := by decide +kernel
theorem dX3_makeOpen_132 : decode cX3_makeOpen 132 = .ok (.getfield 28, 3) := by decide +kernel
theorem dX3_makeOpen_135 : decode cX3_makeOpen 135 = .ok (.iload_n 2, 1) := by decide +kernel
theorem dX3_makeOpen_136 : decode cX3_makeOpen 136 = .ok (.aload_n 0, 1) := by decide +kernel
theorem dX3_makeOpen_137 : decode cX3_makeOpen 137 = .ok (.getfield 28, 3) := by decide +kernel
theorem dX3_makeOpen_140 : decode cX3_makeOpen 140 = .ok (.getfield 133, 3) := by decide +kernel
theorem dX3_makeOpen_143 : decode cX3_makeOpen 143 = .ok (.iadd, 1) := by decide +kernel
theorem dX3_makeOpen_144 : decode cX3_makeOpen 144 = .ok (.putfield 89, 3) := by decide +kernel
theorem dX3_makeOpen_147 : decode cX3_makeOpen 147 = .ok (.aload_n 0, 1) := by decide +kernel
theorem dX3_makeOpen_148 : decode cX3_makeOpen 148 = .ok (.iconst 1, 1) := by decide +kernel
theorem dX3_makeOpen_149 : decode cX3_makeOpen 149 = .ok (.putfield 62, 3) := by decide +kernel
theorem dX3_makeOpen_152 : decode cX3_makeOpen 152 = .ok (.return_, 1) := by decide +kernel
theorem dX3_makeAgain_0 : decode cX3_makeAgain 0 = .ok (.aload_n 0, 1) := by decide +kernel
theorem dX3_makeAgain_1 : decode cX3_makeAgain 1 = .ok (.iconst 0, 1) := by decide +kernel
theorem dX3_makeAgain_2 : decode cX3_makeAgain 2 = .ok (.putfield 65, 3) := by decide +kernel
theorem dX3_makeAgain_5 : decode cX3_makeAgain 5 = .ok (.aload_n 0, 1) := by decide +kernel
theorem dX3_makeAgain_6 : decode cX3_makeAgain 6 = .ok (.getfield 28, 3) := by decide +kernel
theorem dX3_makeAgain_9 : decode cX3_makeAgain 9 = .ok (.iconst 0, 1) := by decide +kernel
theorem dX3_makeAgain_10 : decode cX3_makeAgain 10 = .ok (.putfield 252, 3) := by decide +kernel
theorem dX3_makeAgain_13 : decode cX3_makeAgain 13 = .ok (.aload_n 0, 1) := by decide +kernel
theorem dX3_makeAgain_14 : decode cX3_makeAgain 14 = .ok (.getfield 12, 3) := by decide +kernel
theorem dX3_makeAgain_17 : decode cX3_makeAgain 17 = .ok (.getfield 258, 3) := by decide +kernel
theorem dX3_makeAgain_20 : decode cX3_makeAgain 20 = .ok (.aload_n 0, 1) := by decide +kernel
theorem dX3_makeAgain_21 : decode cX3_makeAgain 21 = .ok (.getfield 53, 3) := by decide +kernel
theorem dX3_makeAgain_24 : decode cX3_makeAgain 24 = .ok (.invokestatic 110, 3) := by decide +kernel
theorem dX3_makeAgain_27 : decode cX3_makeAgain 27 = .ok (.istore_n 2, 1) := by decide +kernel
theorem dX3_makeAgain_28 : decode cX3_makeAgain 28 = .ok (.aload_n 0, 1) := by decide +kernel
theorem dX3_makeAgain_29 : decode cX3_makeAgain 29 = .ok (.getfield 12, 3) := by decide +kernel
theorem dX3_makeAgain_32 : decode cX3_makeAgain 32 = .ok (.getfield 261, 3) := by decide +kernel
theorem dX3_makeAgain_35 : decode cX3_makeAgain 35 = .ok (.ifCond .eq 28, 3) := by decide +kernel
theorem dX3_makeAgain_38 : decode cX3_makeAgain 38 = .ok (.aload_n 0, 1) := by decide +kernel
theorem dX3_makeAgain_39 : decode cX3_makeAgain 39 = .ok (.getfield 12, 3) := by decide +kernel
theorem dX3_makeAgain_42 : decode cX3_makeAgain 42 = .ok (.getfield 199, 3) := by decide +kernel
theorem dX3_makeAgain_45 : decode cX3_makeAgain 45 = .ok (.ifCond .ne 18, 3) := by decide +kernel
theorem dX3_makeAgain_48 : decode cX3_makeAgain 48 = .ok (.iload_n 2, 1) := by decide +kernel
theorem dX3_makeAgain_49 : decode cX3_makeAgain 49 = .ok (.aload_n 0, 1) := by decide +kernel
theorem dX3_makeAgain_50 : decode cX3_makeAgain 50 = .ok (.getfield 12, 3) := by decide +kernel
theorem dX3_makeAgain_53 : decode cX3_makeAgain 53 = .ok (.getfield 258, 3) := by decide +kernel
theorem dX3_makeAgain_56 : decode cX3_makeAgain 56 = .ok (.if_icmp .ne 7, 3) := by decide +kernel
theorem dX3_makeAgain_59 : decode cX3_makeAgain 59 = .ok (.iconst 1, 1) := by decide +kernel
theorem dX3_makeAgain_60 : decode cX3_makeAgain 60 = .ok (.goto 4, 3) := by decide +kernel
theorem dX3_makeAgain_63 : decode cX3_makeAgain 63 = .ok (.iconst 0, 1) := by decide +kernel
theorem dX3_makeAgain_64 : decode cX3_makeAgain 64 = .ok (.istore_n 3, 1) := by decide +kernel
theorem dX3_makeAgain_65 : decode cX3_makeAgain 65 = .ok (.aload_n 0, 1) := by decide +kernel
theorem dX3_makeAgain_66 : decode cX3_makeAgain 66 = .ok (.aload_n 1, 1) := by decide +kernel
theorem dX3_makeAgain_67 : decode cX3_makeAgain 67 = .ok (.aload_n 0, 1) := by decide +kernel
theorem dX3_makeAgain_68 : decode cX3_makeAgain 68 = .ok (.getfield 12, 3) := by decide +kernel
theorem dX3_makeAgain_71 : decode cX3_makeAgain 71 = .ok (.getfield 193, 3) := by decide +kernel
theorem dX3_makeAgain_74 : decode cX3_makeAgain 74 = .ok (.iconst 0, 1) := by decide +kernel
theorem dX3_makeAgain_75 : decode cX3_makeAgain 75 = .ok (.iload_n 2, 1) := by decide +kernel
theorem dX3_makeAgain_76 : decode cX3_makeAgain 76 = .ok (.iload_n 3, 1) := by decide +kernel
theorem dX3_makeAgain_77 : decode cX3_makeAgain 77 = .ok (.invokevirtual 245, 3) := by decide +kernel
theorem dX3_makeAgain_80 : decode cX3_makeAgain 80 = .ok (.return_, 1) := by decide +kernel
theorem dX3_makeNew_0 : decode cX3_makeNew 0 = .ok (.iconst 0, 1) := by decide +kernel
theorem dX3_makeNew_1 : decode cX3_makeNew 1 = .ok (.aload_n 0, 1) := by decide +kernel
theorem dX3_makeNew_2 : decode cX3_makeNew 2 = .ok (.getfield 12, 3) := by decide +kernel
theorem dX3_makeNew_5 : decode cX3_makeNew 5 = .ok (.getfield 139, 3) := by decide +kernel
theorem dX3_makeNew_8 : decode cX3_makeNew 8 = .ok (.aload_n 0, 1) := by decide +kernel
theorem dX3_makeNew_9 : decode cX3_makeNew 9 = .ok (.getfield 12, 3) := by decide +kernel
theorem dX3_makeNew_12 : decode cX3_makeNew 12 = .ok (.getfield 86, 3) := by decide +kernel
theorem dX3_makeNew_15 : decode cX3_makeNew 15 = .ok (.aload_n 0, 1) := by decide +kernel
theorem dX3_makeNew_16 : decode cX3_makeNew 16 = .ok (.getfield 12, 3) := by decide +kernel
theorem dX3_makeNew_19 : decode cX3_makeNew 19 = .ok (.getfield 193, 3) := by decide +kernel
theorem dX3_makeNew_22 : decode cX3_makeNew 22 = .ok (.isub, 1) := by decide +kernel
theorem dX3_makeNew_23 : decode cX3_makeNew 23 = .ok (.isub, 1) := by decide +kernel
theorem dX3_makeNew_24 : decode cX3_makeNew 24 = .ok (.invokestatic 264, 3) := by decide +kernel
theorem dX3_makeNew_27 : decode cX3_makeNew 27 = .ok (.istore_n 3, 1) := by decide +kernel
theorem dX3_makeNew_28 : decode cX3_makeNew 28 = .ok (.aload_n 0, 1) := by decide +kernel
theorem dX3_makeNew_29 : decode cX3_makeNew 29 = .ok (.getfield 12, 3) := by decide +kernel
theorem dX3_makeNew_32 : decode cX3_makeNew 32 = .ok (.getfield 267, 3) := by decide +kernel
theorem dX3_makeNew_35 : decode cX3_makeNew 35 = .ok (.aload_n 0, 1) := by decide +kernel
theorem dX3_makeNew_36 : decode cX3_makeNew 36 = .ok (.getfield 12, 3) := by decide +kernel
theorem dX3_makeNew_39 : decode cX3_makeNew 39 = .ok (.getfield 258, 3) := by decide +kernel
theorem dX3_makeNew_42 : decode cX3_makeNew 42 = .ok (.isub, 1) := by decide +kernel
theorem dX3_makeNew_43 : decode cX3_makeNew 43 = .ok (.aload_n 0, 1) := by decide +kernel
theorem dX3_makeNew_44 : decode cX3_makeNew 44 = .ok (.getfield 53, 3) := by decide +kernel
theorem dX3_makeNew_47 : decode cX3_makeNew 47 = .ok (.iload_n 3, 1) := by decide +kernel
theorem dX3_makeNew_48 : decode cX3_makeNew 48 = .ok (.invokestatic 110, 3) := by decide +kernel
theorem dX3_makeNew_51 : decode cX3_makeNew 51 = .ok (.invokestatic 110, 3) := by decide +kernel
theorem dX3_makeNew_54 : decode cX3_makeNew 54 = .ok (.istore 4, 2) := by decide +kernel
theorem dX3_makeNew_56 : decode cX3_makeNew 56 = .ok (.aload_n 0, 1) := by decide +kernel
theorem dX3_makeNew_57 : decode cX3_makeNew 57 = .ok (.getfield 12, 3) := by decide +kernel
theorem dX3_makeNew_60 : decode cX3_makeNew 60 = .ok (.getfield 95, 3) := by decide +kernel
theorem dX3_makeNew_63 : decode cX3_makeNew 63 = .ok (.ifCond .eq 43, 3) := by decide +kernel
theorem dX3_makeNew_66 : decode cX3_makeNew 66 = .ok (.aload_n 0, 1) := by decide +kernel
theorem dX3_makeNew_67 : decode cX3_makeNew 67 = .ok (.getfield 12, 3) := by decide +kernel
theorem dX3_makeNew_70 : decode cX3_makeNew 70 = .ok (.getfield 261, 3) := by decide +kernel
theorem dX3_makeNew_73 : decode cX3_makeNew 73 = .ok (.ifCond .ne 33, 3) := by decide +kernel
theorem dX3_makeNew_76 : decode cX3_makeNew 76 = .ok (.aload_n 0, 1) := by decide +kernel
theorem dX3_makeNew_77 : decode cX3_makeNew 77 = .ok (.getfield 12, 3) := by decide +kernel
theorem dX3_makeNew_80 : decode cX3_makeNew 80 = .ok (.getfield 258, 3) := by decide +kernel
theorem dX3_makeNew_83 : decode cX3_makeNew 83 = .ok (.iload 4, 2) := by decide +kernel
theorem dX3_makeNew_85 : decode cX3_makeNew 85 = .ok (.iadd, 1) := by decide +kernel
theorem dX3_makeNew_86 : decode cX3_makeNew 86 = .ok (.aload_n 0, 1) := by decide +kernel
theorem dX3_makeNew_87 : decode cX3_makeNew 87 = .ok (.getfield 12, 3) := by decide +kernel
theorem dX3_makeNew_90 : decode cX3_makeNew 90 = .ok (.getfield 267, 3) := by decide +kernel
theorem dX3_makeNew_93 : decode cX3_makeNew 93 = .ok (.if_icmp .ne 13, 3) := by decide +kernel
theorem dX3_makeNew_96 : decode cX3_makeNew 96 = .ok (.iload_n 3, 1) := by decide +kernel
theorem dX3_makeNew_97 : decode cX3_makeNew 97 = .ok (.iload 4, 2) := by decide +kernel
theorem dX3_makeNew_99 : decode cX3_makeNew 99 = .ok (.if_icmp .le 7, 3) := by decide +kernel
theorem dX3_makeNew_102 : decode cX3_makeNew 102 = .ok (.iconst 1, 1) := by decide +kernel
theorem dX3_makeNew_103 : decode cX3_makeNew 103 = .ok (.goto 4, 3) := by decide +kernel
theorem dX3_makeNew_106 : decode cX3_makeNew 106 = .ok (.iconst 0, 1) := by decide +kernel
theorem dX3_makeNew_107 : decode cX3_makeNew 107 = .ok (.istore 5, 2) := by decide +kernel
theorem dX3_makeNew_109 : decode cX3_makeNew 109 = .ok (.iload 4, 2) := by decide +kernel
theorem dX3_makeNew_111 : decode cX3_makeNew 111 = .ok (.ifCond .ne 10, 3) := by decide +kernel
theorem dX3_makeNew_114 : decode cX3_makeNew 114 = .ok (.iload 5, 2) := by decide +kernel
theorem dX3_makeNew_116 : decode cX3_makeNew 116 = .ok (.ifCond .ne 5, 3) := by decide +kernel
theorem dX3_makeNew_119 : decode cX3_makeNew 119 = .ok (.iconst 0, 1) := by decide +kernel
theorem dX3_makeNew_120 : decode cX3_makeNew 120 = .ok (.ireturn, 1) := by decide +kernel
theorem dX3_makeNew_121 : decode cX3_makeNew 121 = .ok (.aload_n 0, 1) := by decide +kernel
theorem dX3_makeNew_122 : decode cX3_makeNew 122 = .ok (.aload_n 1, 1) := by decide +kernel
theorem dX3_makeNew_123 : decode cX3_makeNew 123 = .ok (.iload 4, 2) := by decide +kernel
theorem dX3_makeNew_125 : decode cX3_makeNew 125 = .ok (.iload 5, 2) := by decide +kernel
theorem dX3_makeNew_127 : decode cX3_makeNew 127 = .ok (.iload_n 2, 1) := by decide +kernel
theorem dX3_makeNew_128 : decode cX3_makeNew 128 = .ok (.invokevirtual 270, 3) := by decide +kernel
theorem dX3_makeNew_131 : decode cX3_makeNew 131 = .ok (.iconst 1, 1) := by decide +kernel
theorem dX3_makeNew_132 : decode cX3_makeNew 132 = .ok (.ireturn, 1) := by decide +kernel
theorem dX3_makeProbe_0 : decode cX3_makeProbe 0 = .ok (.aload_n 0, 1) := by decide +kernel
theorem dX3_makeProbe_1 : decode cX3_makeProbe 1 = .ok (.iconst 0, 1) := by decide +kernel
theorem dX3_makeProbe_2 : decode cX3_makeProbe 2 = .ok (.putfield 68, 3) := by decide +kernel
theorem dX3_makeProbe_5 : decode cX3_makeProbe 5 = .ok (.aload_n 0, 1) := by decide +kernel
theorem dX3_makeProbe_6 : decode cX3_makeProbe 6 = .ok (.invokevirtual 136, 3) := by decide +kernel
theorem dX3_makeProbe_9 : decode cX3_makeProbe 9 = .ok (.ifCond .eq 13, 3) := by decide +kernel
theorem dX3_makeProbe_12 : decode cX3_makeProbe 12 = .ok (.aload_n 0, 1) := by decide +kernel
theorem dX3_makeProbe_13 : decode cX3_makeProbe 13 = .ok (.getfield 12, 3) := by decide +kernel
theorem dX3_makeProbe_16 : decode cX3_makeProbe 16 = .ok (.invokevirtual 142, 3) := by decide +kernel
theorem dX3_makeProbe_19 : decode cX3_makeProbe 19 = .ok (.ifCond .ne 5, 3) := by decide +kernel
theorem dX3_makeProbe_22 : decode cX3_makeProbe 22 = .ok (.iconst 0, 1) := by decide +kernel
theorem dX3_makeProbe_23 : decode cX3_makeProbe 23 = .ok (.ireturn, 1) := by decide +kernel
theorem dX3_makeProbe_24 : decode cX3_makeProbe 24 = .ok (.aload_n 0, 1) := by decide +kernel
theorem dX3_makeProbe_25 : decode cX3_makeProbe 25 = .ok (.getfield 12, 3) := by decide +kernel
theorem dX3_makeProbe_28 : decode cX3_makeProbe 28 = .ok (.getfield 258, 3) := by decide +kernel
theorem dX3_makeProbe_31 : decode cX3_makeProbe 31 = .ok (.aload_n 0, 1) := by decide +kernel
theorem dX3_makeProbe_32 : decode cX3_makeProbe 32 = .ok (.getfield 12, 3) := by decide +kernel
theorem dX3_makeProbe_35 : decode cX3_makeProbe 35 = .ok (.getfield 267, 3) := by decide +kernel
theorem dX3_makeProbe_38 : decode cX3_makeProbe 38 = .ok (.if_icmp .lt 7, 3) := by decide +kernel
theorem dX3_makeProbe_41 : decode cX3_makeProbe 41 = .ok (.iconst 1, 1) := by decide +kernel
theorem dX3_makeProbe_42 : decode cX3_makeProbe 42 = .ok (.goto 4, 3) := by decide +kernel
theorem dX3_makeProbe_45 : decode cX3_makeProbe 45 = .ok (.iconst 0, 1) := by decide +kernel
theorem dX3_makeProbe_46 : decode cX3_makeProbe 46 = .ok (.istore_n 3, 1) := by decide +kernel
theorem dX3_makeProbe_47 : decode cX3_makeProbe 47 = .ok (.aload_n 0, 1) := by decide +kernel
theorem dX3_makeProbe_48 : decode cX3_makeProbe 48 = .ok (.aload_n 1, 1) := by decide +kernel
theorem dX3_makeProbe_49 : decode cX3_makeProbe 49 = .ok (.iload_n 3, 1) := by decide +kernel
theorem dX3_makeProbe_50 : decode cX3_makeProbe 50 = .ok (.ifCond .eq 7, 3) := by decide +kernel
theorem dX3_makeProbe_53 : decode cX3_makeProbe 53 = .ok (.iconst 0, 1) := by decide +kernel
theorem dX3_makeProbe_54 : decode cX3_makeProbe 54 = .ok (.goto 4, 3) := by decide +kernel
theorem dX3_makeProbe_57 : decode cX3_makeProbe 57 = .ok (.iconst 1, 1) := by decide +kernel
theorem dX3_makeProbe_58 : decode cX3_makeProbe 58 = .ok (.iload_n 3, 1) := by decide +kernel
theorem dX3_makeProbe_59 : decode cX3_makeProbe 59 = .ok (.iload_n 2, 1) := by decide +kernel
theorem dX3_makeProbe_60 : decode cX3_makeProbe 60 = .ok (.invokevirtual 270, 3) := by decide +kernel
theorem dX3_makeProbe_63 : decode cX3_makeProbe 63 = .ok (.iconst 1, 1) := by decide +kernel
theorem dX3_makeProbe_64 : decode cX3_makeProbe 64 = .ok (.ireturn, 1) := by decide +kernel
theorem dX3_goAhead_0 : decode cX3_goAhead 0 = .ok (.aload_n 0, 1) := by decide +kernel
theorem dX3_goAhead_1 : decode cX3_goAhead 1 = .ok (.aload_n 1, 1) := by decide +kernel
theorem dX3_goAhead_2 : decode cX3_goAhead 2 = .ok (.aload_n 0, 1) := by decide +kernel
theorem dX3_goAhead_3 : decode cX3_goAhead 3 = .ok (.getfield 12, 3) := by decide +kernel
theorem dX3_goAhead_6 : decode cX3_goAhead 6 = .ok (.getfield 86, 3) := by decide +kernel
theorem dX3_goAhead_9 : decode cX3_goAhead 9 = .ok (.aload_n 0, 1) := by decide +kernel
theorem dX3_goAhead_10 : decode cX3_goAhead 10 = .ok (.getfield 12, 3) := by decide +kernel
theorem dX3_goAhead_13 : decode cX3_goAhead 13 = .ok (.getfield 258, 3) := by decide +kernel
theorem dX3_goAhead_16 : decode cX3_goAhead 16 = .ok (.iload_n 2, 1) := by decide +kernel
theorem dX3_goAhead_17 : decode cX3_goAhead 17 = .ok (.iload_n 3, 1) := by decide +kernel
theorem dX3_goAhead_18 : decode cX3_goAhead 18 = .ok (.invokevirtual 245, 3) := by decide +kernel
theorem dX3_goAhead_21 : decode cX3_goAhead 21 = .ok (.aload_n 0, 1) := by decide +kernel
theorem dX3_goAhead_22 : decode cX3_goAhead 22 = .ok (.getfield 12, 3) := by decide +kernel
theorem dX3_goAhead_25 : decode cX3_goAhead 25 = .ok (.dup, 1) := by decide +kernel
theorem dX3_goAhead_26 : decode cX3_goAhead 26 = .ok (.getfield 258, 3) := by decide +kernel
theorem dX3_goAhead_29 : decode cX3_goAhead 29 = .ok (.iload_n 2, 1) := by decide +kernel
theorem dX3_goAhead_30 : decode cX3_goAhead 30 = .ok (.iadd, 1) := by decide +kernel
theorem dX3_goAhead_31 : decode cX3_goAhead 31 = .ok (.putfield 258, 3) := by decide +kernel
theorem dX3_goAhead_34 : decode cX3_goAhead 34 = .ok (.aload_n 0, 1) := by decide +kernel
theorem dX3_goAhead_35 : decode cX3_goAhead 35 = .ok (.getfield 12, 3) := by decide +kernel
theorem dX3_goAhead_38 : decode cX3_goAhead 38 = .ok (.dup, 1) := by decide +kernel
theorem dX3_goAhead_39 : decode cX3_goAhead 39 = .ok (.getfield 86, 3) := by decide +kernel
theorem dX3_goAhead_42 : decode cX3_goAhead 42 = .ok (.iload_n 3, 1) := by decide +kernel
theorem dX3_goAhead_43 : decode cX3_goAhead 43 = .ok (.ifCond .eq 9, 3) := by decide +kernel
theorem dX3_goAhead_46 : decode cX3_goAhead 46 = .ok (.iload_n 2, 1) := by decide +kernel
theorem dX3_goAhead_47 : decode cX3_goAhead 47 = .ok (.iconst 1, 1) := by decide +kernel
theorem dX3_goAhead_48 : decode cX3_goAhead 48 = .ok (.iadd, 1) := by decide +kernel
theorem dX3_goAhead_49 : decode cX3_goAhead 49 = .ok (.goto 4, 3) := by decide +kernel
theorem dX3_goAhead_52 : decode cX3_goAhead 52 = .ok (.iload_n 2, 1) := by decide +kernel
theorem dX3_goAhead_53 : decode cX3_goAhead 53 = .ok (.iadd, 1) := by decide +kernel
theorem dX3_goAhead_54 : decode cX3_goAhead 54 = .ok (.putfield 86, 3) := by decide +kernel
theorem dX3_goAhead_57 : decode cX3_goAhead 57 = .ok (.iload_n 3, 1) := by decide +kernel
theorem dX3_goAhead_58 : decode cX3_goAhead 58 = .ok (.ifCond .eq 11, 3) := by decide +kernel
theorem dX3_goAhead_61 : decode cX3_goAhead 61 = .ok (.aload_n 0, 1) := by decide +kernel
theorem dX3_goAhead_62 : decode cX3_goAhead 62 = .ok (.getfield 12, 3) := by decide +kernel
theorem dX3_goAhead_65 : decode cX3_goAhead 65 = .ok (.iconst 1, 1) := by decide +kernel
theorem dX3_goAhead_66 : decode cX3_goAhead 66 = .ok (.putfield 261, 3) := by decide +kernel
theorem dX3_goAhead_69 : decode cX3_goAhead 69 = .ok (.aload_n 0, 1) := by decide +kernel
theorem dX3_goAhead_70 : decode cX3_goAhead 70 = .ok (.getfield 28, 3) := by decide +kernel
theorem dX3_goAhead_73 : decode cX3_goAhead 73 = .ok (.aload_n 0, 1) := by decide +kernel
theorem dX3_goAhead_74 : decode cX3_goAhead 74 = .ok (.getfield 12, 3) := by decide +kernel
theorem dX3_goAhead_77 : decode cX3_goAhead 77 = .ok (.getfield 86, 3) := by decide +kernel
theorem dX3_goAhead_80 : decode cX3_goAhead 80 = .ok (.iload 4, 2) := by decide +kernel
theorem dX3_goAhead_82 : decode cX3_goAhead 82 = .ok (.invokevirtual 255, 3) := by decide +kernel
theorem dX3_goAhead_85 : decode cX3_goAhead 85 = .ok (.return_, 1) := by decide +kernel
theorem dX3_makeBytes_0 : decode cX3_makeBytes 0 = .ok (.aload_n 1, 1) := by decide +kernel
theorem dX3_makeBytes_1 : decode cX3_makeBytes 1 = .ok (.iload 5, 2) := by decide +kernel
theorem dX3_makeBytes_3 : decode cX3_makeBytes 3 = .ok (.ifCond .eq 8, 3) := by decide +kernel
theorem dX3_makeBytes_6 : decode cX3_makeBytes 6 = .ok (.bipush 10, 2) := by decide +kernel
theorem dX3_makeBytes_8 : decode cX3_makeBytes 8 = .ok (.goto 5, 3) := by decide +kernel
theorem dX3_makeBytes_11 : decode cX3_makeBytes 11 = .ok (.bipush 8, 2) := by decide +kernel
theorem dX3_makeBytes_13 : decode cX3_makeBytes 13 = .ok (.iload_n 2, 1) := by decide +kernel
theorem dX3_makeBytes_14 : decode cX3_makeBytes 14 = .ok (.aload_n 0, 1) := by decide +kernel
theorem dX3_makeBytes_15 : decode cX3_makeBytes 15 = .ok (.getfield 21, 3) := by decide +kernel
theorem dX3_makeBytes_18 : decode cX3_makeBytes 18 = .ok (.getfield 104, 3) := by decide +kernel
theorem dX3_makeBytes_21 : decode cX3_makeBytes 21 = .ok (.aload_n 0, 1) := by decide +kernel
theorem dX3_makeBytes_22 : decode cX3_makeBytes 22 = .ok (.getfield 21, 3) := by decide +kernel
theorem dX3_makeBytes_25 : decode cX3_makeBytes 25 = .ok (.invokevirtual 116, 3) := by decide +kernel
theorem dX3_makeBytes_28 : decode cX3_makeBytes 28 = .ok (.invokevirtual 228, 3) := by decide +kernel
theorem dX3_makeBytes_31 : decode cX3_makeBytes 31 = .ok (.aload_n 0, 1) := by decide +kernel
theorem dX3_makeBytes_32 : decode cX3_makeBytes 32 = .ok (.getfield 12, 3) := by decide +kernel
theorem dX3_makeBytes_35 : decode cX3_makeBytes 35 = .ok (.aload_n 1, 1) := by decide +kernel
theorem dX3_makeBytes_36 : decode cX3_makeBytes 36 = .ok (.iload_n 3, 1) := by decide +kernel
theorem dX3_makeBytes_37 : decode cX3_makeBytes 37 = .ok (.iload 4, 2) := by decide +kernel
theorem dX3_makeBytes_39 : decode cX3_makeBytes 39 = .ok (.invokevirtual 274, 3) := by decide +kernel
theorem dX3_makeBytes_42 : decode cX3_makeBytes 42 = .ok (.aload_n 0, 1) := by decide +kernel
theorem dX3_makeBytes_43 : decode cX3_makeBytes 43 = .ok (.iconst 0, 1) := by decide +kernel
theorem dX3_makeBytes_44 : decode cX3_makeBytes 44 = .ok (.putfield 71, 3) := by decide +kernel
theorem dX3_makeBytes_47 : decode cX3_makeBytes 47 = .ok (.return_, 1) := by decide +kernel
theorem dX4_init_0 : decode cX4_init 0 = .ok (.aload_n 0, 1) := by decide +kernel
theorem dX4_init_1 : decode cX4_init 1 = .ok (.invokespecial 3, 3) := by decide +kernel
theorem dX4_init_4 : decode cX4_init 4 = .ok (.aload_n 0, 1) := by decide +kernel
theorem dX4_init_5 : decode cX4_init 5 = .ok (.sipush 2048, 3) := by decide +kernel
theorem dX4_init_8 : decode cX4_init 8 = .ok (.newarray .byte, 2) := by decide +kernel
theorem dX4_init_10 : decode cX4_init 10 = .ok (.putfield 9, 3) := by decide +kernel
theorem dX4_init_13 : decode cX4_init 13 = .ok (.aload_n 0, 1) := by decide +kernel
theorem dX4_init_14 : decode cX4_init 14 = .ok (.sipush 2048, 3) := by decide +kernel
theorem dX4_init_17 : decode cX4_init 17 = .ok (.newarray .boolean, 2) := by decide +kernel
theorem dX4_init_19 : decode cX4_init 19 = .ok (.putfield 15, 3) := by decide +kernel
theorem dX4_init_22 : decode cX4_init 22 = .ok (.return_, 1) := by decide +kernel
theorem dX4_begin_0 : decode cX4_begin 0 = .ok (.aload_n 0, 1) := by decide +kernel
theorem dX4_begin_1 : decode cX4_begin 1 = .ok (.iconst 0, 1) := by decide +kernel
theorem dX4_begin_2 : decode cX4_begin 2 = .ok (.putfield 19, 3) := by decide +kernel
theorem dX4_begin_5 : decode cX4_begin 5 = .ok (.aload_n 0, 1) := by decide +kernel
theorem dX4_begin_6 : decode cX4_begin 6 = .ok (.iconst 0, 1) := by decide +kernel
theorem dX4_begin_7 : decode cX4_begin 7 = .ok (.putfield 23, 3) := by decide +kernel
theorem dX4_begin_10 : decode cX4_begin 10 = .ok (.aload_n 0, 1) := by decide +kernel
theorem dX4_begin_11 : decode cX4_begin 11 = .ok (.iconst 0, 1) := by decide +kernel
theorem dX4_begin_12 : decode cX4_begin 12 = .ok (.putfield 26, 3) := by decide +kernel
theorem dX4_begin_15 : decode cX4_begin 15 = .ok (.aload_n 0, 1) := by decide +kernel
theorem dX4_begin_16 : decode cX4_begin 16 = .ok (.iconst 0, 1) := by decide +kernel
theorem dX4_begin_17 : decode cX4_begin 17 = .ok (.putfield 29, 3) := by decide +kernel
theorem dX4_begin_20 : decode cX4_begin 20 = .ok (.aload_n 0, 1) := by decide +kernel
theorem dX4_begin_21 : decode cX4_begin 21 = .ok (.iconst 0, 1) := by decide +kernel
theorem dX4_begin_22 : decode cX4_begin 22 = .ok (.putfield 33, 3) := by decide +kernel
theorem dX4_begin_25 : decode cX4_begin 25 = .ok (.aload_n 0, 1) := by decide +kernel
theorem dX4_begin_26 : decode cX4_begin 26 = .ok (.iconst 0, 1) := by decide +kernel
theorem dX4_begin_27 : decode cX4_begin 27 = .ok (.putfield 36, 3) := by decide +kernel
theorem dX4_begin_30 : decode cX4_begin 30 = .ok (.iconst 0, 1) := by decide +kernel
theorem dX4_begin_31 : decode cX4_begin 31 = .ok (.istore_n 1, 1) := by decide +kernel
theorem dX4_begin_32 : decode cX4_begin 32 = .ok (.iload_n 1, 1) := by decide +kernel
theorem dX4_begin_33 : decode cX4_begin 33 = .ok (.sipush 2048, 3) := by decide +kernel
theorem dX4_begin_36 : decode cX4_begin 36 = .ok (.if_icmp .ge 16, 3) := by decide +kernel
theorem dX4_begin_39 : decode cX4_begin 39 = .ok (.aload_n 0, 1) := by decide +kernel
theorem dX4_begin_40 : decode cX4_begin 40 = .ok (.getfield 15, 3) := by decide +kernel
theorem dX4_begin_43 : decode cX4_begin 43 = .ok (.iload_n 1, 1) := by decide +kernel
theorem dX4_begin_44 : decode cX4_begin 44 = .ok (.iconst 0, 1) := by decide +kernel
theorem dX4_begin_45 : decode cX4_begin 45 = .ok (.bastore, 1) := by decide +kernel
theorem dX4_begin_46 : decode cX4_begin 46 = .ok (.iinc 1 1, 3) := by decide +kernel
theorem dX4_begin_49 : decode cX4_begin 49 = .ok (.goto (-17), 3) := by decide +kernel
theorem dX4_begin_52 : decode cX4_begin 52 = .ok (.return_, 1) := by decide +kernel
theorem dX4_room_0 : decode cX4_room 0 = .ok (.sipush 2048, 3) := by decide +kernel
theorem dX4_room_3 : decode cX4_room 3 = .ok (.aload_n 0, 1) := by decide +kernel
theorem dX4_room_4 : decode cX4_room 4 = .ok (.getfield 23, 3) := by decide +kernel
theorem dX4_room_7 : decode cX4_room 7 = .ok (.isub, 1) := by decide +kernel
theorem dX4_room_8 : decode cX4_room 8 = .ok (.ireturn, 1) := by decide +kernel
theorem dX4_fits_0 : decode cX4_fits 0 = .ok (.iload_n 1, 1) := by decide +kernel
theorem dX4_fits_1 : decode cX4_fits 1 = .ok (.aload_n 0, 1) := by decide +kernel
theorem dX4_fits_2 : decode cX4_fits 2 = .ok (.getfield 26, 3) := by decide +kernel
theorem dX4_fits_5 : decode cX4_fits 5 = .ok (.isub, 1) := by decide +kernel
theorem dX4_fits_6 : decode cX4_fits 6 = .ok (.istore_n 3, 1) := by decide +kernel
theorem dX4_fits_7 : decode cX4_fits 7 = .ok (.iload_n 2, 1) := by decide +kernel
theorem dX4_fits_8 : decode cX4_fits 8 = .ok (.ifCond .ne 25, 3) := by decide +kernel
theorem dX4_fits_11 : decode cX4_fits 11 = .ok (.iload_n 3, 1) := by decide +kernel
theorem dX4_fits_12 : decode cX4_fits 12 = .ok (.ifCond .eq 15, 3) := by decide +kernel
theorem dX4_fits_15 : decode cX4_fits 15 = .ok (.iload_n 3, 1) := by decide +kernel
theorem dX4_fits_16 : decode cX4_fits 16 = .ok (.ifCond .le 15, 3) := by decide +kernel
theorem dX4_fits_19 : decode cX4_fits 19 = .ok (.iload_n 3, 1) := by decide +kernel
theorem dX4_fits_20 : decode cX4_fits 20 = .ok (.aload_n 0, 1) := by decide +kernel
theorem dX4_fits_21 : decode cX4_fits 21 = .ok (.invokevirtual 39, 3) := by decide +kernel
theorem dX4_fits_24 : decode cX4_fits 24 = .ok (.if_icmp .ge 7, 3) := by decide +kernel
theorem dX4_fits_27 : decode cX4_fits 27 = .ok (.iconst 1, 1) := by decide +kernel
theorem dX4_fits_28 : decode cX4_fits 28 = .ok (.goto 4, 3) := by decide +kernel
theorem dX4_fits_31 : decode cX4_fits 31 = .ok (.iconst 0, 1) := by decide +kernel
theorem dX4_fits_32 : decode cX4_fits 32 = .ok (.ireturn, 1) := by decide +kernel
theorem dX4_fits_33 : decode cX4_fits 33 = .ok (.iload_n 3, 1) := by decide +kernel
theorem dX4_fits_34 : decode cX4_fits 34 = .ok (.ifCond .lt 17, 3) := by decide +kernel
theorem dX4_fits_37 : decode cX4_fits 37 = .ok (.iload_n 3, 1) := by decide +kernel
theorem dX4_fits_38 : decode cX4_fits 38 = .ok (.aload_n 0, 1) := by decide +kernel
theorem dX4_fits_39 : decode cX4_fits 39 = .ok (.invokevirtual 39, 3) := by decide +kernel
theorem dX4_fits_42 : decode cX4_fits 42 = .ok (.if_icmp .ge 7, 3) := by decide +kernel
theorem dX4_fits_45 : decode cX4_fits 45 = .ok (.iconst 1, 1) := by decide +kernel
theorem dX4_fits_46 : decode cX4_fits 46 = .ok (.goto 4, 3) := by decide +kernel
theorem dX4_fits_49 : decode cX4_fits 49 = .ok (.iconst 0, 1) := by decide +kernel
theorem dX4_fits_50 : decode cX4_fits 50 = .ok (.ireturn, 1) := by decide +kernel
theorem dX4_fits_51 : decode cX4_fits 51 = .ok (.aload_n 0, 1) := by decide +kernel
theorem dX4_fits_52 : decode cX4_fits 52 = .ok (.invokevirtual 39, 3) := by decide +kernel
theorem dX4_fits_55 : decode cX4_fits 55 = .ok (.ifCond .le 13, 3) := by decide +kernel
theorem dX4_fits_58 : decode cX4_fits 58 = .ok (.iload_n 3, 1) := by decide +kernel
theorem dX4_fits_59 : decode cX4_fits 59 = .ok (.iload_n 2, 1) := by decide +kernel
theorem dX4_fits_60 : decode cX4_fits 60 = .ok (.iadd, 1) := by decide +kernel
theorem dX4_fits_61 : decode cX4_fits 61 = .ok (.ifCond .le 7, 3) := by decide +kernel
theorem dX4_fits_64 : decode cX4_fits 64 = .ok (.iconst 1, 1) := by decide +kernel
theorem dX4_fits_65 : decode cX4_fits 65 = .ok (.goto 4, 3) := by decide +kernel
theorem dX4_fits_68 : decode cX4_fits 68 = .ok (.iconst 0, 1) := by decide +kernel
theorem dX4_fits_69 : decode cX4_fits 69 = .ok (.ireturn, 1) := by decide +kernel
theorem dX4_take_0 : decode cX4_take 0 = .ok (.aload_n 0, 1) := by decide +kernel
theorem dX4_take_1 : decode cX4_take 1 = .ok (.invokevirtual 39, 3) := by decide +kernel
theorem dX4_take_4 : decode cX4_take 4 = .ok (.istore_n 2, 1) := by decide +kernel
theorem dX4_take_5 : decode cX4_take 5 = .ok (.aload_n 1, 1) := by decide +kernel
theorem dX4_take_6 : decode cX4_take 6 = .ok (.invokevirtual 43, 3) := by decide +kernel
theorem dX4_take_9 : decode cX4_take 9 = .ok (.istore_n 3, 1) := by decide +kernel
theorem dX4_take_10 : decode cX4_take 10 = .ok (.aload_n 1, 1) := by decide +kernel
theorem dX4_take_11 : decode cX4_take 11 = .ok (.getfield 48, 3) := by decide +kernel
theorem dX4_take_14 : decode cX4_take 14 = .ok (.aload_n 0, 1) := by decide +kernel
theorem dX4_take_15 : decode cX4_take 15 = .ok (.getfield 26, 3) := by decide +kernel
theorem dX4_take_18 : decode cX4_take 18 = .ok (.isub, 1) := by decide +kernel
theorem dX4_take_19 : decode cX4_take 19 = .ok (.istore 4, 2) := by decide +kernel
theorem dX4_take_21 : decode cX4_take 21 = .ok (.iconst 0, 1) := by decide +kernel
theorem dX4_take_22 : decode cX4_take 22 = .ok (.istore 5, 2) := by decide +kernel
theorem dX4_take_24 : decode cX4_take 24 = .ok (.iload 5, 2) := by decide +kernel
theorem dX4_take_26 : decode cX4_take 26 = .ok (.iload_n 3, 1) := by decide +kernel
theorem dX4_take_27 : decode cX4_take 27 = .ok (.if_icmp .ge 88, 3) := by decide +kernel
theorem dX4_take_30 : decode cX4_take 30 = .ok (.iload 4, 2) := by decide +kernel
theorem dX4_take_32 : decode cX4_take 32 = .ok (.iload 5, 2) := by decide +kernel
theorem dX4_take_34 : decode cX4_take 34 = .ok (.iadd, 1) := by decide +kernel
theorem dX4_take_35 : decode cX4_take 35 = .ok (.ifCond .lt 74, 3) := by decide +kernel
theorem dX4_take_38 : decode cX4_take 38 = .ok (.iload 4, 2) := by decide +kernel
theorem dX4_take_40 : decode cX4_take 40 = .ok (.iload 5, 2) := by decide +kernel
theorem dX4_take_42 : decode cX4_take 42 = .ok (.iadd, 1) := by decide +kernel
theorem dX4_take_43 : decode cX4_take 43 = .ok (.iload_n 2, 1) := by decide +kernel
theorem dX4_take_44 : decode cX4_take 44 = .ok (.if_icmp .lt 6, 3) := by decide +kernel
theorem dX4_take_47 : decode cX4_take 47 = .ok (.goto 62, 3) := by decide +kernel
theorem dX4_take_50 : decode cX4_take 50 = .ok (.aload_n 0, 1) := by decide +kernel
theorem dX4_take_51 : decode cX4_take 51 = .ok (.getfield 19, 3) := by decide +kernel
theorem dX4_take_54 : decode cX4_take 54 = .ok (.aload_n 0, 1) := by decide +kernel
theorem dX4_take_55 : decode cX4_take 55 = .ok (.getfield 23, 3) := by decide +kernel
theorem dX4_take_58 : decode cX4_take 58 = .ok (.iadd, 1) := by decide +kernel
theorem dX4_take_59 : decode cX4_take 59 = .ok (.iload 4, 2) := by decide +kernel
theorem dX4_take_61 : decode cX4_take 61 = .ok (.iadd, 1) := by decide +kernel
theorem dX4_take_62 : decode cX4_take 62 = .ok (.iload 5, 2) := by decide +kernel
theorem dX4_take_64 : decode cX4_take 64 = .ok (.iadd, 1) := by decide +kernel
theorem dX4_take_65 : decode cX4_take 65 = .ok (.sipush 2047, 3) := by decide +kernel
theorem dX4_take_68 : decode cX4_take 68 = .ok (.iand, 1) := by decide +kernel
theorem dX4_take_69 : decode cX4_take 69 = .ok (.istore 6, 2) := by decide +kernel
theorem dX4_take_71 : decode cX4_take 71 = .ok (.aload_n 0, 1) := by decide +kernel
theorem dX4_take_72 : decode cX4_take 72 = .ok (.getfield 15, 3) := by decide +kernel
theorem dX4_take_75 : decode cX4_take 75 = .ok (.iload 6, 2) := by decide +kernel
theorem dX4_take_77 : decode cX4_take 77 = .ok (.baload, 1) := by decide +kernel
theorem dX4_take_78 : decode cX4_take 78 = .ok (.ifCond .eq 6, 3) := by decide +kernel
theorem dX4_take_81 : decode cX4_take 81 = .ok (.goto 28, 3) := by decide +kernel
theorem dX4_take_84 : decode cX4_take 84 = .ok (.aload_n 0, 1) := by decide +kernel
theorem dX4_take_85 : decode cX4_take 85 = .ok (.getfield 15, 3) := by decide +kernel
theorem dX4_take_88 : decode cX4_take 88 = .ok (.iload 6, 2) := by decide +kernel
theorem dX4_take_90 : decode cX4_take 90 = .ok (.iconst 1, 1) := by decide +kernel
theorem dX4_take_91 : decode cX4_take 91 = .ok (.bastore, 1) := by decide +kernel
theorem dX4_take_92 : decode cX4_take 92 = .ok (.aload_n 0, 1) := by decide +kernel
theorem dX4_take_93 : decode cX4_take 93 = .ok (.getfield 9, 3) := by decide +kernel
theorem dX4_take_96 : decode cX4_take 96 = .ok (.iload 6, 2) := by decide +kernel
theorem dX4_take_98 : decode cX4_take 98 = .ok (.aload_n 1, 1) := by decide +kernel
theorem dX4_take_99 : decode cX4_take 99 = .ok (.getfield 51, 3) := by decide +kernel
theorem dX4_take_102 : decode cX4_take 102 = .ok (.bipush 20, 2) := by decide +kernel
theorem dX4_take_104 : decode cX4_take 104 = .ok (.iload 5, 2) := by decide +kernel
theorem dX4_take_106 : decode cX4_take 106 = .ok (.iadd, 1) := by decide +kernel
theorem dX4_take_107 : decode cX4_take 107 = .ok (.baload, 1) := by decide +kernel
theorem dX4_take_108 : decode cX4_take 108 = .ok (.bastore, 1) := by decide +kernel
theorem dX4_take_109 : decode cX4_take 109 = .ok (.iinc 5 1, 3) := by decide +kernel
theorem dX4_take_112 : decode cX4_take 112 = .ok (.goto (-88), 3) := by decide +kernel
theorem dX4_take_115 : decode cX4_take 115 = .ok (.aload_n 1, 1) := by decide +kernel
theorem dX4_take_116 : decode cX4_take 116 = .ok (.iconst 2, 1) := by decide +kernel
theorem dX4_take_117 : decode cX4_take 117 = .ok (.invokevirtual 54, 3) := by decide +kernel
theorem dX4_take_120 : decode cX4_take 120 = .ok (.ifCond .eq 40, 3) := by decide +kernel
theorem dX4_take_123 : decode cX4_take 123 = .ok (.aload_n 0, 1) := by decide +kernel
theorem dX4_take_124 : decode cX4_take 124 = .ok (.getfield 29, 3) := by decide +kernel
theorem dX4_take_127 : decode cX4_take 127 = .ok (.ifCond .ne 33, 3) := by decide +kernel
theorem dX4_take_130 : decode cX4_take 130 = .ok (.iload 4, 2) := by decide +kernel
theorem dX4_take_132 : decode cX4_take 132 = .ok (.iload_n 3, 1) := by decide +kernel
theorem dX4_take_133 : decode cX4_take 133 = .ok (.iadd, 1) := by decide +kernel
theorem dX4_take_134 : decode cX4_take 134 = .ok (.ifCond .lt 26, 3) := by decide +kernel
theorem dX4_take_137 : decode cX4_take 137 = .ok (.iload 4, 2) := by decide +kernel
theorem dX4_take_139 : decode cX4_take 139 = .ok (.iload_n 3, 1) := by decide +kernel
theorem dX4_take_140 : decode cX4_take 140 = .ok (.iadd, 1) := by decide +kernel
theorem dX4_take_141 : decode cX4_take 141 = .ok (.iload_n 2, 1) := by decide +kernel
theorem dX4_take_142 : decode cX4_take 142 = .ok (.if_icmp .ge 18, 3) := by decide +kernel
theorem dX4_take_145 : decode cX4_take 145 = .ok (.aload_n 0, 1) := by decide +kernel
theorem dX4_take_146 : decode cX4_take 146 = .ok (.iconst 1, 1) := by decide +kernel
theorem dX4_take_147 : decode cX4_take 147 = .ok (.putfield 29, 3) := by decide +kernel
theorem dX4_take_150 : decode cX4_take 150 = .ok (.aload_n 0, 1) := by decide +kernel
theorem dX4_take_151 : decode cX4_take 151 = .ok (.aload_n 1, 1) := by decide +kernel
theorem dX4_take_152 : decode cX4_take 152 = .ok (.getfield 48, 3) := by decide +kernel
theorem dX4_take_155 : decode cX4_take 155 = .ok (.iload_n 3, 1) := by decide +kernel
theorem dX4_take_156 : decode cX4_take 156 = .ok (.iadd, 1) := by decide +kernel
theorem dX4_take_157 : decode cX4_take 157 = .ok (.putfield 33, 3) := by decide +kernel
theorem dX4_take_160 : decode cX4_take 160 = .ok (.aload_n 0, 1) := by decide +kernel
theorem dX4_take_161 : decode cX4_take 161 = .ok (.invokevirtual 58, 3) := by decide +kernel
theorem dX4_take_164 : decode cX4_take 164 = .ok (.return_, 1) := by decide +kernel
theorem dX4_goOn_0 : decode cX4_goOn 0 = .ok (.iconst 0, 1) := by decide +kernel
theorem dX4_goOn_1 : decode cX4_goOn 1 = .ok (.istore_n 1, 1) := by decide +kernel
theorem dX4_goOn_2 : decode cX4_goOn 2 = .ok (.iload_n 1, 1) := by decide +kernel
theorem dX4_goOn_3 : decode cX4_goOn 3 = .ok (.sipush 2048, 3) := by decide +kernel
theorem dX4_goOn_6 : decode cX4_goOn 6 = .ok (.if_icmp .gt 104, 3) := by decide +kernel
theorem dX4_goOn_9 : decode cX4_goOn 9 = .ok (.aload_n 0, 1) := by decide +kernel
theorem dX4_goOn_10 : decode cX4_goOn 10 = .ok (.getfield 29, 3) := by decide +kernel
theorem dX4_goOn_13 : decode cX4_goOn 13 = .ok (.ifCond .eq 30, 3) := by decide +kernel
theorem dX4_goOn_16 : decode cX4_goOn 16 = .ok (.aload_n 0, 1) := by decide +kernel
theorem dX4_goOn_17 : decode cX4_goOn 17 = .ok (.getfield 26, 3) := by decide +kernel
theorem dX4_goOn_20 : decode cX4_goOn 20 = .ok (.aload_n 0, 1) := by decide +kernel
theorem dX4_goOn_21 : decode cX4_goOn 21 = .ok (.getfield 33, 3) := by decide +kernel
theorem dX4_goOn_24 : decode cX4_goOn 24 = .ok (.if_icmp .ne 19, 3) := by decide +kernel
theorem dX4_goOn_27 : decode cX4_goOn 27 = .ok (.aload_n 0, 1) := by decide +kernel
theorem dX4_goOn_28 : decode cX4_goOn 28 = .ok (.dup, 1) := by decide +kernel
theorem dX4_goOn_29 : decode cX4_goOn 29 = .ok (.getfield 26, 3) := by decide +kernel
theorem dX4_goOn_32 : decode cX4_goOn 32 = .ok (.iconst 1, 1) := by decide +kernel
theorem dX4_goOn_33 : decode cX4_goOn 33 = .ok (.iadd, 1) := by decide +kernel
theorem dX4_goOn_34 : decode cX4_goOn 34 = .ok (.putfield 26, 3) := by decide +kernel
theorem dX4_goOn_37 : decode cX4_goOn 37 = .ok (.aload_n 0, 1) := by decide +kernel
theorem dX4_goOn_38 : decode cX4_goOn 38 = .ok (.iconst 1, 1) := by decide +kernel
theorem dX4_goOn_39 : decode cX4_goOn 39 = .ok (.putfield 36, 3) := by decide +kernel
theorem dX4_goOn_42 : decode cX4_goOn 42 = .ok (.return_, 1) := by decide +kernel
theorem dX4_goOn_43 : decode cX4_goOn 43 = .ok (.aload_n 0, 1) := by decide +kernel
theorem dX4_goOn_44 : decode cX4_goOn 44 = .ok (.getfield 19, 3) := by decide +kernel
theorem dX4_goOn_47 : decode cX4_goOn 47 = .ok (.aload_n 0, 1) := by decide +kernel
theorem dX4_goOn_48 : decode cX4_goOn 48 = .ok (.getfield 23, 3) := by decide +kernel
theorem dX4_goOn_51 : decode cX4_goOn 51 = .ok (.iadd, 1) := by decide +kernel
theorem dX4_goOn_52 : decode cX4_goOn 52 = .ok (.sipush 2047, 3) := by decide +kernel
theorem dX4_goOn_55 : decode cX4_goOn 55 = .ok (.iand, 1) := by decide +kernel
theorem dX4_goOn_56 : decode cX4_goOn 56 = .ok (.istore_n 2, 1) := by decide +kernel
theorem dX4_goOn_57 : decode cX4_goOn 57 = .ok (.aload_n 0, 1) := by decide +kernel
theorem dX4_goOn_58 : decode cX4_goOn 58 = .ok (.getfield 23, 3) := by decide +kernel
theorem dX4_goOn_61 : decode cX4_goOn 61 = .ok (.sipush 2048, 3) := by decide +kernel
theorem dX4_goOn_64 : decode cX4_goOn 64 = .ok (.if_icmp .ge 12, 3) := by decide +kernel
theorem dX4_goOn_67 : decode cX4_goOn 67 = .ok (.aload_n 0, 1) := by decide +kernel
theorem dX4_goOn_68 : decode cX4_goOn 68 = .ok (.getfield 15, 3) := by decide +kernel
theorem dX4_goOn_71 : decode cX4_goOn 71 = .ok (.iload_n 2, 1) := by decide +kernel
theorem dX4_goOn_72 : decode cX4_goOn 72 = .ok (.baload, 1) := by decide +kernel
theorem dX4_goOn_73 : decode cX4_goOn 73 = .ok (.ifCond .ne 4, 3) := by decide +kernel
theorem dX4_goOn_76 : decode cX4_goOn 76 = .ok (.return_, 1) := by decide +kernel
theorem dX4_goOn_77 : decode cX4_goOn 77 = .ok (.aload_n 0, 1) := by decide +kernel
theorem dX4_goOn_78 : decode cX4_goOn 78 = .ok (.getfield 15, 3) := by decide +kernel
theorem dX4_goOn_81 : decode cX4_goOn 81 = .ok (.iload_n 2, 1) := by decide +kernel
theorem dX4_goOn_82 : decode cX4_goOn 82 = .ok (.iconst 0, 1) := by decide +kernel
theorem dX4_goOn_83 : decode cX4_goOn 83 = .ok (.bastore, 1) := by decide +kernel
theorem dX4_goOn_84 : decode cX4_goOn 84 = .ok (.aload_n 0, 1) := by decide +kernel
theorem dX4_goOn_85 : decode cX4_goOn 85 = .ok (.dup, 1) := by decide +kernel
theorem dX4_goOn_86 : decode cX4_goOn 86 = .ok (.getfield 23, 3) := by decide +kernel
theorem dX4_goOn_89 : decode cX4_goOn 89 = .ok (.iconst 1, 1) := by decide +kernel
theorem dX4_goOn_90 : decode cX4_goOn 90 = .ok (.iadd, 1) := by decide +kernel
theorem dX4_goOn_91 : decode cX4_goOn 91 = .ok (.putfield 23, 3) := by decide +kernel
theorem dX4_goOn_94 : decode cX4_goOn 94 = .ok (.aload_n 0, 1) := by decide +kernel
theorem dX4_goOn_95 : decode cX4_goOn 95 = .ok (.dup, 1) := by decide +kernel
theorem dX4_goOn_96 : decode cX4_goOn 96 = .ok (.getfield 26, 3) := by decide +kernel
theorem dX4_goOn_99 : decode cX4_goOn 99 = .ok (.iconst 1, 1) := by decide +kernel
theorem dX4_goOn_100 : decode cX4_goOn 100 = .ok (.iadd, 1) := by decide +kernel
theorem dX4_goOn_101 : decode cX4_goOn 101 = .ok (.putfield 26, 3) := by decide +kernel
theorem dX4_goOn_104 : decode cX4_goOn 104 = .ok (.iinc 1 1, 3) := by decide +kernel
theorem dX4_goOn_107 : decode cX4_goOn 107 = .ok (.goto (-105), 3) := by decide +kernel
theorem dX4_goOn_110 : decode cX4_goOn 110 = .ok (.return_, 1) := by decide +kernel
theorem dX4_takeByte_0 : decode cX4_takeByte 0 = .ok (.aload_n 0, 1) := by decide +kernel
theorem dX4_takeByte_1 : decode cX4_takeByte 1 = .ok (.getfield 23, 3) := by decide +kernel
theorem dX4_takeByte_4 : decode cX4_takeByte 4 = .ok (.ifCond .gt 5, 3) := by decide +kernel
theorem dX4_takeByte_7 : decode cX4_takeByte 7 = .ok (.iconst 0, 1) := by decide +kernel
theorem dX4_takeByte_8 : decode cX4_takeByte 8 = .ok (.ireturn, 1) := by decide +kernel
theorem dX4_takeByte_9 : decode cX4_takeByte 9 = .ok (.aload_n 0, 1) := by decide +kernel
theorem dX4_takeByte_10 : decode cX4_takeByte 10 = .ok (.getfield 9, 3) := by decide +kernel
theorem dX4_takeByte_13 : decode cX4_takeByte 13 = .ok (.aload_n 0, 1) := by decide +kernel
theorem dX4_takeByte_14 : decode cX4_takeByte 14 = .ok (.getfield 19, 3) := by decide +kernel
theorem dX4_takeByte_17 : decode cX4_takeByte 17 = .ok (.baload, 1) := by decide +kernel
theorem dX4_takeByte_18 : decode cX4_takeByte 18 = .ok (.sipush 255, 3) := by decide +kernel
theorem dX4_takeByte_21 : decode cX4_takeByte 21 = .ok (.iand, 1) := by decide +kernel
theorem dX4_takeByte_22 : decode cX4_takeByte 22 = .ok (.istore_n 1, 1) := by decide +kernel
theorem dX4_takeByte_23 : decode cX4_takeByte 23 = .ok (.aload_n 0, 1) := by decide +kernel
theorem dX4_takeByte_24 : decode cX4_takeByte 24 = .ok (.aload_n 0, 1) := by decide +kernel
theorem dX4_takeByte_25 : decode cX4_takeByte 25 = .ok (.getfield 19, 3) := by decide +kernel
theorem dX4_takeByte_28 : decode cX4_takeByte 28 = .ok (.iconst 1, 1) := by decide +kernel
theorem dX4_takeByte_29 : decode cX4_takeByte 29 = .ok (.iadd, 1) := by decide +kernel
theorem dX4_takeByte_30 : decode cX4_takeByte 30 = .ok (.sipush 2047, 3) := by decide +kernel
theorem dX4_takeByte_33 : decode cX4_takeByte 33 = .ok (.iand, 1) := by decide +kernel
theorem dX4_takeByte_34 : decode cX4_takeByte 34 = .ok (.putfield 19, 3) := by decide +kernel
theorem dX4_takeByte_37 : decode cX4_takeByte 37 = .ok (.aload_n 0, 1) := by decide +kernel
theorem dX4_takeByte_38 : decode cX4_takeByte 38 = .ok (.dup, 1) := by decide +kernel
theorem dX4_takeByte_39 : decode cX4_takeByte 39 = .ok (.getfield 23, 3) := by decide +kernel
theorem dX4_takeByte_42 : decode cX4_takeByte 42 = .ok (.iconst 1, 1) := by decide +kernel
theorem dX4_takeByte_43 : decode cX4_takeByte 43 = .ok (.isub, 1) := by decide +kernel
theorem dX4_takeByte_44 : decode cX4_takeByte 44 = .ok (.putfield 23, 3) := by decide +kernel
theorem dX4_takeByte_47 : decode cX4_takeByte 47 = .ok (.iload_n 1, 1) := by decide +kernel
theorem dX4_takeByte_48 : decode cX4_takeByte 48 = .ok (.ireturn, 1) := by decide +kernel
theorem dX5_init_0 : decode cX5_init 0 = .ok (.aload_n 0, 1) := by decide +kernel
theorem dX5_init_1 : decode cX5_init 1 = .ok (.invokespecial 3, 3) := by decide +kernel
theorem dX5_init_4 : decode cX5_init 4 = .ok (.aload_n 0, 1) := by decide +kernel
theorem dX5_init_5 : decode cX5_init 5 = .ok (.iconst 1, 1) := by decide +kernel
theorem dX5_init_6 : decode cX5_init 6 = .ok (.putfield 9, 3) := by decide +kernel
theorem dX5_init_9 : decode cX5_init 9 = .ok (.aload_n 0, 1) := by decide +kernel
theorem dX5_init_10 : decode cX5_init 10 = .ok (.bipush 64, 2) := by decide +kernel
theorem dX5_init_12 : decode cX5_init 12 = .ok (.newarray .byte, 2) := by decide +kernel
theorem dX5_init_14 : decode cX5_init 14 = .ok (.putfield 15, 3) := by decide +kernel
theorem dX5_init_17 : decode cX5_init 17 = .ok (.aload_n 0, 1) := by decide +kernel
theorem dX5_init_18 : decode cX5_init 18 = .ok (.bipush 8, 2) := by decide +kernel
theorem dX5_init_20 : decode cX5_init 20 = .ok (.anewarray 19, 3) := by decide +kernel
theorem dX5_init_23 : decode cX5_init 23 = .ok (.putfield 21, 3) := by decide +kernel
theorem dX5_init_26 : decode cX5_init 26 = .ok (.aload_n 0, 1) := by decide +kernel
theorem dX5_init_27 : decode cX5_init 27 = .ok (.iload_n 1, 1) := by decide +kernel
theorem dX5_init_28 : decode cX5_init 28 = .ok (.putfield 25, 3) := by decide +kernel
theorem dX5_init_31 : decode cX5_init 31 = .ok (.return_, 1) := by decide +kernel
theorem dX5_addFate_0 : decode cX5_addFate 0 = .ok (.aload_n 0, 1) := by decide +kernel
theorem dX5_addFate_1 : decode cX5_addFate 1 = .ok (.getfield 29, 3) := by decide +kernel
theorem dX5_addFate_4 : decode cX5_addFate 4 = .ok (.bipush 64, 2) := by decide +kernel
theorem dX5_addFate_6 : decode cX5_addFate 6 = .ok (.if_icmp .lt 4, 3) := by decide +kernel
theorem dX5_addFate_9 : decode cX5_addFate 9 = .ok (.return_, 1) := by decide +kernel
theorem dX5_addFate_10 : decode cX5_addFate 10 = .ok (.aload_n 0, 1) := by decide +kernel
theorem dX5_addFate_11 : decode cX5_addFate 11 = .ok (.getfield 15, 3) := by decide +kernel
theorem dX5_addFate_14 : decode cX5_addFate 14 = .ok (.aload_n 0, 1) := by decide +kernel
theorem dX5_addFate_15 : decode cX5_addFate 15 = .ok (.getfield 32, 3) := by decide +kernel
theorem dX5_addFate_18 : decode cX5_addFate 18 = .ok (.aload_n 0, 1) := by decide +kernel
theorem dX5_addFate_19 : decode cX5_addFate 19 = .ok (.getfield 29, 3) := by decide +kernel
theorem dX5_addFate_22 : decode cX5_addFate 22 = .ok (.iadd, 1) := by decide +kernel
theorem dX5_addFate_23 : decode cX5_addFate 23 = .ok (.bipush 63, 2) := by decide +kernel
theorem dX5_addFate_25 : decode cX5_addFate 25 = .ok (.iand, 1) := by decide +kernel
theorem dX5_addFate_26 : decode cX5_addFate 26 = .ok (.iload_n 1, 1) := by decide +kernel
theorem dX5_addFate_27 : decode cX5_addFate 27 = .ok (.i2b, 1) := by decide +kernel
theorem dX5_addFate_28 : decode cX5_addFate 28 = .ok (.bastore, 1) := by decide +kernel
theorem dX5_addFate_29 : decode cX5_addFate 29 = .ok (.aload_n 0, 1) := by decide +kernel
theorem dX5_addFate_30 : decode cX5_addFate 30 = .ok (.dup, 1) := by decide +kernel
theorem dX5_addFate_31 : decode cX5_addFate 31 = .ok (.getfield 29, 3) := by decide +kernel
theorem dX5_addFate_34 : decode cX5_addFate 34 = .ok (.iconst 1, 1) := by decide +kernel
theorem dX5_addFate_35 : decode cX5_addFate 35 = .ok (.iadd, 1) := by decide +kernel
theorem dX5_addFate_36 : decode cX5_addFate 36 = .ok (.putfield 29, 3) := by decide +kernel
theorem dX5_addFate_39 : decode cX5_addFate 39 = .ok (.return_, 1) := by decide +kernel
theorem dX5_nextFate_0 : decode cX5_nextFate 0 = .ok (.aload_n 0, 1) := by decide +kernel
theorem dX5_nextFate_1 : decode cX5_nextFate 1 = .ok (.getfield 29, 3) := by decide +kernel
theorem dX5_nextFate_4 : decode cX5_nextFate 4 = .ok (.ifCond .ne 5, 3) := by decide +kernel
theorem dX5_nextFate_7 : decode cX5_nextFate 7 = .ok (.iconst 0, 1) := by decide +kernel
theorem dX5_nextFate_8 : decode cX5_nextFate 8 = .ok (.ireturn, 1) := by decide +kernel
theorem dX5_nextFate_9 : decode cX5_nextFate 9 = .ok (.aload_n 0, 1) := by decide +kernel
theorem dX5_nextFate_10 : decode cX5_nextFate 10 = .ok (.getfield 15, 3) := by decide +kernel
theorem dX5_nextFate_13 : decode cX5_nextFate 13 = .ok (.aload_n 0, 1) := by decide +kernel
theorem dX5_nextFate_14 : decode cX5_nextFate 14 = .ok (.getfield 32, 3) := by decide +kernel
theorem dX5_nextFate_17 : decode cX5_nextFate 17 = .ok (.baload, 1) := by decide +kernel
theorem dX5_nextFate_18 : decode cX5_nextFate 18 = .ok (.istore_n 1, 1) := by decide +kernel
theorem dX5_nextFate_19 : decode cX5_nextFate 19 = .ok (.aload_n 0, 1) := by decide +kernel
theorem dX5_nextFate_20 : decode cX5_nextFate 20 = .ok (.aload_n 0, 1) := by decide +kernel
theorem dX5_nextFate_21 : decode cX5_nextFate 21 = .ok (.getfield 32, 3) := by decide +kernel
theorem dX5_nextFate_24 : decode cX5_nextFate 24 = .ok (.iconst 1, 1) := by decide +kernel
theorem dX5_nextFate_25 : decode cX5_nextFate 25 = .ok (.iadd, 1) := by decide +kernel
theorem dX5_nextFate_26 : decode cX5_nextFate 26 = .ok (.bipush 63, 2) := by decide +kernel
theorem dX5_nextFate_28 : decode cX5_nextFate 28 = .ok (.iand, 1) := by decide +kernel
theorem dX5_nextFate_29 : decode cX5_nextFate 29 = .ok (.putfield 32, 3) := by decide +kernel
theorem dX5_nextFate_32 : decode cX5_nextFate 32 = .ok (.aload_n 0, 1) := by decide +kernel
theorem dX5_nextFate_33 : decode cX5_nextFate 33 = .ok (.dup, 1) := by decide +kernel
theorem dX5_nextFate_34 : decode cX5_nextFate 34 = .ok (.getfield 29, 3) := by decide +kernel
theorem dX5_nextFate_37 : decode cX5_nextFate 37 = .ok (.iconst 1, 1) := by decide +kernel
theorem dX5_nextFate_38 : decode cX5_nextFate 38 = .ok (.isub, 1) := by decide +kernel
theorem dX5_nextFate_39 : decode cX5_nextFate 39 = .ok (.putfield 29, 3) := by decide +kernel
theorem dX5_nextFate_42 : decode cX5_nextFate 42 = .ok (.iload_n 1, 1) := by decide +kernel
theorem dX5_nextFate_43 : decode cX5_nextFate 43 = .ok (.ireturn, 1) := by decide +kernel
theorem dX5_addressOf_0 : decode cX5_addressOf 0 = .ok (.ldc 35, 2) := by decide +kernel
theorem dX5_addressOf_2 : decode cX5_addressOf 2 = .ok (.aload_n 0, 1) := by decide +kernel
theorem dX5_addressOf_3 : decode cX5_addressOf 3 = .ok (.getfield 25, 3) := by decide +kernel
theorem dX5_addressOf_6 : decode cX5_addressOf 6 = .ok (.bipush 16, 2) := by decide +kernel
theorem dX5_addressOf_8 : decode cX5_addressOf 8 = .ok (.ishl, 1) := by decide +kernel
theorem dX5_addressOf_9 : decode cX5_addressOf 9 = .ok (.iadd, 1) := by decide +kernel
theorem dX5_addressOf_10 : decode cX5_addressOf 10 = .ok (.iload_n 1, 1) := by decide +kernel
theorem dX5_addressOf_11 : decode cX5_addressOf 11 = .ok (.iadd, 1) := by decide +kernel
theorem dX5_addressOf_12 : decode cX5_addressOf 12 = .ok (.iconst 1, 1) := by decide +kernel
theorem dX5_addressOf_13 : decode cX5_addressOf 13 = .ok (.iadd, 1) := by decide +kernel
theorem dX5_addressOf_14 : decode cX5_addressOf 14 = .ok (.ireturn, 1) := by decide +kernel
theorem dX5_leastRouter_0 : decode cX5_leastRouter 0 = .ok (.iconst 0, 1) := by decide +kernel
theorem dX5_leastRouter_1 : decode cX5_leastRouter 1 = .ok (.istore_n 1, 1) := by decide +kernel
theorem dX5_leastRouter_2 : decode cX5_leastRouter 2 = .ok (.iload_n 1, 1) := by decide +kernel
theorem dX5_leastRouter_3 : decode cX5_leastRouter 3 = .ok (.aload_n 0, 1) := by decide +kernel
theorem dX5_leastRouter_4 : decode cX5_leastRouter 4 = .ok (.getfield 36, 3) := by decide +kernel
theorem dX5_leastRouter_7 : decode cX5_leastRouter 7 = .ok (.if_icmp .ge 26, 3) := by decide +kernel
theorem dX5_leastRouter_10 : decode cX5_leastRouter 10 = .ok (.aload_n 0, 1) := by decide +kernel
theorem dX5_leastRouter_11 : decode cX5_leastRouter 11 = .ok (.getfield 21, 3) := by decide +kernel
theorem dX5_leastRouter_14 : decode cX5_leastRouter 14 = .ok (.iload_n 1, 1) := by decide +kernel
theorem dX5_leastRouter_15 : decode cX5_leastRouter 15 = .ok (.aaload, 1) := by decide +kernel
theorem dX5_leastRouter_16 : decode cX5_leastRouter 16 = .ok (.getfield 39, 3) := by decide +kernel
theorem dX5_leastRouter_19 : decode cX5_leastRouter 19 = .ok (.getfield 43, 3) := by decide +kernel
theorem dX5_leastRouter_22 : decode cX5_leastRouter 22 = .ok (.ifCond .eq 5, 3) := by decide +kernel
theorem dX5_leastRouter_25 : decode cX5_leastRouter 25 = .ok (.iload_n 1, 1) := by decide +kernel
theorem dX5_leastRouter_26 : decode cX5_leastRouter 26 = .ok (.ireturn, 1) := by decide +kernel
theorem dX5_leastRouter_27 : decode cX5_leastRouter 27 = .ok (.iinc 1 1, 3) := by decide +kernel
theorem dX5_leastRouter_30 : decode cX5_leastRouter 30 = .ok (.goto (-28), 3) := by decide +kernel
theorem dX5_leastRouter_33 : decode cX5_leastRouter 33 = .ok (.iconst (-1), 1) := by decide +kernel
theorem dX5_leastRouter_34 : decode cX5_leastRouter 34 = .ok (.ireturn, 1) := by decide +kernel
theorem dX6_init_0 : decode cX6_init 0 = .ok (.aload_n 0, 1) := by decide +kernel
theorem dX6_init_1 : decode cX6_init 1 = .ok (.invokespecial 3, 3) := by decide +kernel
theorem dX6_init_4 : decode cX6_init 4 = .ok (.aload_n 0, 1) := by decide +kernel
theorem dX6_init_5 : decode cX6_init 5 = .ok (.sipush 2048, 3) := by decide +kernel
theorem dX6_init_8 : decode cX6_init 8 = .ok (.newarray .byte, 2) := by decide +kernel
theorem dX6_init_10 : decode cX6_init 10 = .ok (.putfield 9, 3) := by decide +kernel
theorem dX6_init_13 : decode cX6_init 13 = .ok (.return_, 1) := by decide +kernel
theorem dX6_begin_0 : decode cX6_begin 0 = .ok (.aload_n 0, 1) := by decide +kernel
theorem dX6_begin_1 : decode cX6_begin 1 = .ok (.iconst 0, 1) := by decide +kernel
theorem dX6_begin_2 : decode cX6_begin 2 = .ok (.putfield 15, 3) := by decide +kernel
theorem dX6_begin_5 : decode cX6_begin 5 = .ok (.aload_n 0, 1) := by decide +kernel
theorem dX6_begin_6 : decode cX6_begin 6 = .ok (.iconst 0, 1) := by decide +kernel
theorem dX6_begin_7 : decode cX6_begin 7 = .ok (.putfield 19, 3) := by decide +kernel
theorem dX6_begin_10 : decode cX6_begin 10 = .ok (.aload_n 0, 1) := by decide +kernel
theorem dX6_begin_11 : decode cX6_begin 11 = .ok (.iconst 0, 1) := by decide +kernel
theorem dX6_begin_12 : decode cX6_begin 12 = .ok (.putfield 22, 3) := by decide +kernel
theorem dX6_begin_15 : decode cX6_begin 15 = .ok (.aload_n 0, 1) := by decide +kernel
theorem dX6_begin_16 : decode cX6_begin 16 = .ok (.iload_n 1, 1) := by decide +kernel
theorem dX6_begin_17 : decode cX6_begin 17 = .ok (.putfield 25, 3) := by decide +kernel
theorem dX6_begin_20 : decode cX6_begin 20 = .ok (.aload_n 0, 1) := by decide +kernel
theorem dX6_begin_21 : decode cX6_begin 21 = .ok (.iload_n 1, 1) := by decide +kernel
theorem dX6_begin_22 : decode cX6_begin 22 = .ok (.putfield 28, 3) := by decide +kernel
theorem dX6_begin_25 : decode cX6_begin 25 = .ok (.aload_n 0, 1) := by decide +kernel
theorem dX6_begin_26 : decode cX6_begin 26 = .ok (.iload_n 1, 1) := by decide +kernel
theorem dX6_begin_27 : decode cX6_begin 27 = .ok (.putfield 31, 3) := by decide +kernel
theorem dX6_begin_30 : decode cX6_begin 30 = .ok (.aload_n 0, 1) := by decide +kernel
theorem dX6_begin_31 : decode cX6_begin 31 = .ok (.iconst 0, 1) := by decide +kernel
theorem dX6_begin_32 : decode cX6_begin 32 = .ok (.putfield 34, 3) := by decide +kernel
theorem dX6_begin_35 : decode cX6_begin 35 = .ok (.aload_n 0, 1) := by decide +kernel
theorem dX6_begin_36 : decode cX6_begin 36 = .ok (.iconst 0, 1) := by decide +kernel
theorem dX6_begin_37 : decode cX6_begin 37 = .ok (.putfield 38, 3) := by decide +kernel
theorem dX6_begin_40 : decode cX6_begin 40 = .ok (.aload_n 0, 1) := by decide +kernel
theorem dX6_begin_41 : decode cX6_begin 41 = .ok (.iconst 0, 1) := by decide +kernel
theorem dX6_begin_42 : decode cX6_begin 42 = .ok (.putfield 41, 3) := by decide +kernel
theorem dX6_begin_45 : decode cX6_begin 45 = .ok (.aload_n 0, 1) := by decide +kernel
theorem dX6_begin_46 : decode cX6_begin 46 = .ok (.iconst 0, 1) := by decide +kernel
theorem dX6_begin_47 : decode cX6_begin 47 = .ok (.putfield 44, 3) := by decide +kernel
theorem dX6_begin_50 : decode cX6_begin 50 = .ok (.aload_n 0, 1) := by decide +kernel
theorem dX6_begin_51 : decode cX6_begin 51 = .ok (.iconst 0, 1) := by decide +kernel
theorem dX6_begin_52 : decode cX6_begin 52 = .ok (.putfield 47, 3) := by decide +kernel
theorem dX6_begin_55 : decode cX6_begin 55 = .ok (.aload_n 0, 1) := by decide +kernel
theorem dX6_begin_56 : decode cX6_begin 56 = .ok (.iconst 0, 1) := by decide +kernel
theorem dX6_begin_57 : decode cX6_begin 57 = .ok (.putfield 50, 3) := by decide +kernel
theorem dX6_begin_60 : decode cX6_begin 60 = .ok (.aload_n 0, 1) := by decide +kernel
theorem dX6_begin_61 : decode cX6_begin 61 = .ok (.iconst 0, 1) := by decide +kernel
theorem dX6_begin_62 : decode cX6_begin 62 = .ok (.putfield 53, 3) := by decide +kernel
theorem dX6_begin_65 : decode cX6_begin 65 = .ok (.return_, 1) := by decide +kernel
theorem dX6_add_0 : decode cX6_add 0 = .ok (.aload_n 0, 1) := by decide +kernel
theorem dX6_add_1 : decode cX6_add 1 = .ok (.getfield 19, 3) := by decide +kernel
theorem dX6_add_4 : decode cX6_add 4 = .ok (.sipush 2048, 3) := by decide +kernel
theorem dX6_add_7 : decode cX6_add 7 = .ok (.if_icmp .lt 4, 3) := by decide +kernel
theorem dX6_add_10 : decode cX6_add 10 = .ok (.return_, 1) := by decide +kernel
theorem dX6_add_11 : decode cX6_add 11 = .ok (.aload_n 0, 1) := by decide +kernel
theorem dX6_add_12 : decode cX6_add 12 = .ok (.getfield 9, 3) := by decide +kernel
theorem dX6_add_15 : decode cX6_add 15 = .ok (.aload_n 0, 1) := by decide +kernel
theorem dX6_add_16 : decode cX6_add 16 = .ok (.getfield 15, 3) := by decide +kernel
theorem dX6_add_19 : decode cX6_add 19 = .ok (.aload_n 0, 1) := by decide +kernel
theorem dX6_add_20 : decode cX6_add 20 = .ok (.getfield 19, 3) := by decide +kernel
theorem dX6_add_23 : decode cX6_add 23 = .ok (.iadd, 1) := by decide +kernel
theorem dX6_add_24 : decode cX6_add 24 = .ok (.sipush 2047, 3) := by decide +kernel
theorem dX6_add_27 : decode cX6_add 27 = .ok (.iand, 1) := by decide +kernel
theorem dX6_add_28 : decode cX6_add 28 = .ok (.iload_n 1, 1) := by decide +kernel
theorem dX6_add_29 : decode cX6_add 29 = .ok (.i2b, 1) := by decide +kernel
theorem dX6_add_30 : decode cX6_add 30 = .ok (.bastore, 1) := by decide +kernel
theorem dX6_add_31 : decode cX6_add 31 = .ok (.aload_n 0, 1) := by decide +kernel
theorem dX6_add_32 : decode cX6_add 32 = .ok (.dup, 1) := by decide +kernel
theorem dX6_add_33 : decode cX6_add 33 = .ok (.getfield 19, 3) := by decide +kernel
theorem dX6_add_36 : decode cX6_add 36 = .ok (.iconst 1, 1) := by decide +kernel
theorem dX6_add_37 : decode cX6_add 37 = .ok (.iadd, 1) := by decide +kernel
theorem dX6_add_38 : decode cX6_add 38 = .ok (.putfield 19, 3) := by decide +kernel
theorem dX6_add_41 : decode cX6_add 41 = .ok (.return_, 1) := by decide +kernel
theorem dX6_hasUnthanked_0 : decode cX6_hasUnthanked 0 = .ok (.aload_n 0, 1) := by decide +kernel
theorem dX6_hasUnthanked_1 : decode cX6_hasUnthanked 1 = .ok (.getfield 28, 3) := by decide +kernel
theorem dX6_hasUnthanked_4 : decode cX6_hasUnthanked 4 = .ok (.aload_n 0, 1) := by decide +kernel
theorem dX6_hasUnthanked_5 : decode cX6_hasUnthanked 5 = .ok (.getfield 31, 3) := by decide +kernel
theorem dX6_hasUnthanked_8 : decode cX6_hasUnthanked 8 = .ok (.if_icmp .eq 7, 3) := by decide +kernel
theorem dX6_hasUnthanked_11 : decode cX6_hasUnthanked 11 = .ok (.iconst 1, 1) := by decide +kernel
theorem dX6_hasUnthanked_12 : decode cX6_hasUnthanked 12 = .ok (.goto 4, 3) := by decide +kernel
theorem dX6_hasUnthanked_15 : decode cX6_hasUnthanked 15 = .ok (.iconst 0, 1) := by decide +kernel
theorem dX6_hasUnthanked_16 : decode cX6_hasUnthanked 16 = .ok (.ireturn, 1) := by decide +kernel
theorem dX6_hasNew_0 : decode cX6_hasNew 0 = .ok (.aload_n 0, 1) := by decide +kernel
theorem dX6_hasNew_1 : decode cX6_hasNew 1 = .ok (.getfield 22, 3) := by decide +kernel
theorem dX6_hasNew_4 : decode cX6_hasNew 4 = .ok (.aload_n 0, 1) := by decide +kernel
theorem dX6_hasNew_5 : decode cX6_hasNew 5 = .ok (.getfield 19, 3) := by decide +kernel
theorem dX6_hasNew_8 : decode cX6_hasNew 8 = .ok (.if_icmp .lt 17, 3) := by decide +kernel
theorem dX6_hasNew_11 : decode cX6_hasNew 11 = .ok (.aload_n 0, 1) := by decide +kernel
theorem dX6_hasNew_12 : decode cX6_hasNew 12 = .ok (.getfield 38, 3) := by decide +kernel
theorem dX6_hasNew_15 : decode cX6_hasNew 15 = .ok (.ifCond .eq 14, 3) := by decide +kernel
theorem dX6_hasNew_18 : decode cX6_hasNew 18 = .ok (.aload_n 0, 1) := by decide +kernel
theorem dX6_hasNew_19 : decode cX6_hasNew 19 = .ok (.getfield 41, 3) := by decide +kernel
theorem dX6_hasNew_22 : decode cX6_hasNew 22 = .ok (.ifCond .ne 7, 3) := by decide +kernel
theorem dX6_hasNew_25 : decode cX6_hasNew 25 = .ok (.iconst 1, 1) := by decide +kernel
theorem dX6_hasNew_26 : decode cX6_hasNew 26 = .ok (.goto 4, 3) := by decide +kernel
theorem dX6_hasNew_29 : decode cX6_hasNew 29 = .ok (.iconst 0, 1) := by decide +kernel
theorem dX6_hasNew_30 : decode cX6_hasNew 30 = .ok (.ireturn, 1) := by decide +kernel
theorem dX6_thankTo_0 : decode cX6_thankTo 0 = .ok (.iload_n 1, 1) := by decide +kernel
theorem dX6_thankTo_1 : decode cX6_thankTo 1 = .ok (.aload_n 0, 1) := by decide +kernel
theorem dX6_thankTo_2 : decode cX6_thankTo 2 = .ok (.getfield 28, 3) := by decide +kernel
theorem dX6_thankTo_5 : decode cX6_thankTo 5 = .ok (.isub, 1) := by decide +kernel
theorem dX6_thankTo_6 : decode cX6_thankTo 6 = .ok (.istore_n 2, 1) := by decide +kernel
theorem dX6_thankTo_7 : decode cX6_thankTo 7 = .ok (.aload_n 0, 1) := by decide +kernel
theorem dX6_thankTo_8 : decode cX6_thankTo 8 = .ok (.iload_n 1, 1) := by decide +kernel
theorem dX6_thankTo_9 : decode cX6_thankTo 9 = .ok (.putfield 28, 3) := by decide +kernel
theorem dX6_thankTo_12 : decode cX6_thankTo 12 = .ok (.aload_n 0, 1) := by decide +kernel
theorem dX6_thankTo_13 : decode cX6_thankTo 13 = .ok (.getfield 34, 3) := by decide +kernel
theorem dX6_thankTo_16 : decode cX6_thankTo 16 = .ok (.ifCond .ne 11, 3) := by decide +kernel
theorem dX6_thankTo_19 : decode cX6_thankTo 19 = .ok (.aload_n 0, 1) := by decide +kernel
theorem dX6_thankTo_20 : decode cX6_thankTo 20 = .ok (.iconst 1, 1) := by decide +kernel
theorem dX6_thankTo_21 : decode cX6_thankTo 21 = .ok (.putfield 34, 3) := by decide +kernel
theorem dX6_thankTo_24 : decode cX6_thankTo 24 = .ok (.iinc 2 (-1), 3) := by decide +kernel
theorem dX6_thankTo_27 : decode cX6_thankTo 27 = .ok (.iconst 0, 1) := by decide +kernel
theorem dX6_thankTo_28 : decode cX6_thankTo 28 = .ok (.iload_n 2, 1) := by decide +kernel
theorem dX6_thankTo_29 : decode cX6_thankTo 29 = .ok (.aload_n 0, 1) := by decide +kernel
theorem dX6_thankTo_30 : decode cX6_thankTo 30 = .ok (.getfield 22, 3) := by decide +kernel
theorem dX6_thankTo_33 : decode cX6_thankTo 33 = .ok (.invokestatic 56, 3) := by decide +kernel
theorem dX6_thankTo_36 : decode cX6_thankTo 36 = .ok (.invokestatic 62, 3) := by decide +kernel
theorem dX6_thankTo_39 : decode cX6_thankTo 39 = .ok (.istore_n 3, 1) := by decide +kernel
theorem dX6_thankTo_40 : decode cX6_thankTo 40 = .ok (.aload_n 0, 1) := by decide +kernel
theorem dX6_thankTo_41 : decode cX6_thankTo 41 = .ok (.aload_n 0, 1) := by decide +kernel
theorem dX6_thankTo_42 : decode cX6_thankTo 42 = .ok (.getfield 15, 3) := by decide +kernel
theorem dX6_thankTo_45 : decode cX6_thankTo 45 = .ok (.iload_n 3, 1) := by decide +kernel
theorem dX6_thankTo_46 : decode cX6_thankTo 46 = .ok (.iadd, 1) := by decide +kernel
theorem dX6_thankTo_47 : decode cX6_thankTo 47 = .ok (.sipush 2047, 3) := by decide +kernel
theorem dX6_thankTo_50 : decode cX6_thankTo 50 = .ok (.iand, 1) := by decide +kernel
theorem dX6_thankTo_51 : decode cX6_thankTo 51 = .ok (.putfield 15, 3) := by decide +kernel
theorem dX6_thankTo_54 : decode cX6_thankTo 54 = .ok (.aload_n 0, 1) := by decide +kernel
theorem dX6_thankTo_55 : decode cX6_thankTo 55 = .ok (.dup, 1) := by decide +kernel
theorem dX6_thankTo_56 : decode cX6_thankTo 56 = .ok (.getfield 19, 3) := by decide +kernel
theorem dX6_thankTo_59 : decode cX6_thankTo 59 = .ok (.iload_n 3, 1) := by decide +kernel
theorem dX6_thankTo_60 : decode cX6_thankTo 60 = .ok (.isub, 1) := by decide +kernel
theorem dX6_thankTo_61 : decode cX6_thankTo 61 = .ok (.putfield 19, 3) := by decide +kernel
theorem dX6_thankTo_64 : decode cX6_thankTo 64 = .ok (.aload_n 0, 1) := by decide +kernel
theorem dX6_thankTo_65 : decode cX6_thankTo 65 = .ok (.dup, 1) := by decide +kernel
theorem dX6_thankTo_66 : decode cX6_thankTo 66 = .ok (.getfield 22, 3) := by decide +kernel
theorem dX6_thankTo_69 : decode cX6_thankTo 69 = .ok (.iload_n 3, 1) := by decide +kernel
theorem dX6_thankTo_70 : decode cX6_thankTo 70 = .ok (.isub, 1) := by decide +kernel
theorem dX6_thankTo_71 : decode cX6_thankTo 71 = .ok (.putfield 22, 3) := by decide +kernel
theorem dX6_thankTo_74 : decode cX6_thankTo 74 = .ok (.iload_n 2, 1) := by decide +kernel
theorem dX6_thankTo_75 : decode cX6_thankTo 75 = .ok (.iload_n 3, 1) := by decide +kernel
theorem dX6_thankTo_76 : decode cX6_thankTo 76 = .ok (.if_icmp .le 15, 3) := by decide +kernel
theorem dX6_thankTo_79 : decode cX6_thankTo 79 = .ok (.aload_n 0, 1) := by decide +kernel
theorem dX6_thankTo_80 : decode cX6_thankTo 80 = .ok (.getfield 41, 3) := by decide +kernel
theorem dX6_thankTo_83 : decode cX6_thankTo 83 = .ok (.ifCond .eq 8, 3) := by decide +kernel
theorem dX6_thankTo_86 : decode cX6_thankTo 86 = .ok (.aload_n 0, 1) := by decide +kernel
theorem dX6_thankTo_87 : decode cX6_thankTo 87 = .ok (.iconst 1, 1) := by decide +kernel
theorem dX6_thankTo_88 : decode cX6_thankTo 88 = .ok (.putfield 44, 3) := by decide +kernel
theorem dX6_thankTo_91 : decode cX6_thankTo 91 = .ok (.return_, 1) := by decide +kernel
theorem dX6_tellWindow_0 : decode cX6_tellWindow 0 = .ok (.aload_n 0, 1) := by decide +kernel
theorem dX6_tellWindow_1 : decode cX6_tellWindow 1 = .ok (.aload_n 1, 1) := by decide +kernel
theorem dX6_tellWindow_2 : decode cX6_tellWindow 2 = .ok (.getfield 65, 3) := by decide +kernel
theorem dX6_tellWindow_5 : decode cX6_tellWindow 5 = .ok (.putfield 47, 3) := by decide +kernel
theorem dX6_tellWindow_8 : decode cX6_tellWindow 8 = .ok (.aload_n 0, 1) := by decide +kernel
theorem dX6_tellWindow_9 : decode cX6_tellWindow 9 = .ok (.aload_n 1, 1) := by decide +kernel
theorem dX6_tellWindow_10 : decode cX6_tellWindow 10 = .ok (.getfield 68, 3) := by decide +kernel
theorem dX6_tellWindow_13 : decode cX6_tellWindow 13 = .ok (.putfield 50, 3) := by decide +kernel
theorem dX6_tellWindow_16 : decode cX6_tellWindow 16 = .ok (.aload_n 0, 1) := by decide +kernel
theorem dX6_tellWindow_17 : decode cX6_tellWindow 17 = .ok (.iload_n 2, 1) := by decide +kernel
theorem dX6_tellWindow_18 : decode cX6_tellWindow 18 = .ok (.putfield 53, 3) := by decide +kernel
theorem dX6_tellWindow_21 : decode cX6_tellWindow 21 = .ok (.return_, 1) := by decide +kernel
theorem dX6_putBytes_0 : decode cX6_putBytes 0 = .ok (.iconst 0, 1) := by decide +kernel
theorem dX6_putBytes_1 : decode cX6_putBytes 1 = .ok (.iload_n 3, 1) := by decide +kernel
theorem dX6_putBytes_2 : decode cX6_putBytes 2 = .ok (.sipush 1460, 3) := by decide +kernel
theorem dX6_putBytes_5 : decode cX6_putBytes 5 = .ok (.invokestatic 56, 3) := by decide +kernel
theorem dX6_putBytes_8 : decode cX6_putBytes 8 = .ok (.invokestatic 62, 3) := by decide +kernel
theorem dX6_putBytes_11 : decode cX6_putBytes 11 = .ok (.istore 4, 2) := by decide +kernel
theorem dX6_putBytes_13 : decode cX6_putBytes 13 = .ok (.iconst 0, 1) := by decide +kernel
theorem dX6_putBytes_14 : decode cX6_putBytes 14 = .ok (.istore 5, 2) := by decide +kernel
theorem dX6_putBytes_16 : decode cX6_putBytes 16 = .ok (.iload 5, 2) := by decide +kernel
theorem dX6_putBytes_18 : decode cX6_putBytes 18 = .ok (.iload 4, 2) := by decide +kernel
theorem dX6_putBytes_20 : decode cX6_putBytes 20 = .ok (.if_icmp .ge 37, 3) := by decide +kernel
theorem dX6_putBytes_23 : decode cX6_putBytes 23 = .ok (.aload_n 1, 1) := by decide +kernel
theorem dX6_putBytes_24 : decode cX6_putBytes 24 = .ok (.getfield 69, 3) := by decide +kernel
theorem dX6_putBytes_27 : decode cX6_putBytes 27 = .ok (.bipush 20, 2) := by decide +kernel
theorem dX6_putBytes_29 : decode cX6_putBytes 29 = .ok (.iload 5, 2) := by decide +kernel
theorem dX6_putBytes_31 : decode cX6_putBytes 31 = .ok (.iadd, 1) := by decide +kernel
theorem dX6_putBytes_32 : decode cX6_putBytes 32 = .ok (.aload_n 0, 1) := by decide +kernel
theorem dX6_putBytes_33 : decode cX6_putBytes 33 = .ok (.getfield 9, 3) := by decide +kernel
theorem dX6_putBytes_36 : decode cX6_putBytes 36 = .ok (.aload_n 0, 1) := by decide +kernel
theorem dX6_putBytes_37 : decode cX6_putBytes 37 = .ok (.getfield 15, 3) := by decide +kernel
theorem dX6_putBytes_40 : decode cX6_putBytes 40 = .ok (.iload_n 2, 1) := by decide +kernel
theorem dX6_putBytes_41 : decode cX6_putBytes 41 = .ok (.iadd, 1) := by decide +kernel
theorem dX6_putBytes_42 : decode cX6_putBytes 42 = .ok (.iload 5, 2) := by decide +kernel
theorem dX6_putBytes_44 : decode cX6_putBytes 44 = .ok (.iadd, 1) := by decide +kernel
theorem dX6_putBytes_45 : decode cX6_putBytes 45 = .ok (.sipush 2047, 3) := by decide +kernel
theorem dX6_putBytes_48 : decode cX6_putBytes 48 = .ok (.iand, 1) := by decide +kernel
theorem dX6_putBytes_49 : decode cX6_putBytes 49 = .ok (.baload, 1) := by decide +kernel
theorem dX6_putBytes_50 : decode cX6_putBytes 50 = .ok (.bastore, 1) := by decide +kernel
theorem dX6_putBytes_51 : decode cX6_putBytes 51 = .ok (.iinc 5 1, 3) := by decide +kernel
theorem dX6_putBytes_54 : decode cX6_putBytes 54 = .ok (.goto (-38), 3) := by decide +kernel
theorem dX6_putBytes_57 : decode cX6_putBytes 57 = .ok (.aload_n 1, 1) := by decide +kernel
theorem dX6_putBytes_58 : decode cX6_putBytes 58 = .ok (.bipush 20, 2) := by decide +kernel
theorem dX6_putBytes_60 : decode cX6_putBytes 60 = .ok (.iload 4, 2) := by decide +kernel
theorem dX6_putBytes_62 : decode cX6_putBytes 62 = .ok (.iadd, 1) := by decide +kernel
theorem dX6_putBytes_63 : decode cX6_putBytes 63 = .ok (.invokevirtual 72, 3) := by decide +kernel
theorem dX6_putBytes_66 : decode cX6_putBytes 66 = .ok (.return_, 1) := by decide +kernel
theorem dX7_init_0 : decode cX7_init 0 = .ok (.aload_n 0, 1) := by decide +kernel
theorem dX7_init_1 : decode cX7_init 1 = .ok (.invokespecial 3, 3) := by decide +kernel
theorem dX7_init_4 : decode cX7_init 4 = .ok (.aload_n 0, 1) := by decide +kernel
theorem dX7_init_5 : decode cX7_init 5 = .ok (.sipush 1480, 3) := by decide +kernel
theorem dX7_init_8 : decode cX7_init 8 = .ok (.newarray .byte, 2) := by decide +kernel
theorem dX7_init_10 : decode cX7_init 10 = .ok (.putfield 9, 3) := by decide +kernel
theorem dX7_init_13 : decode cX7_init 13 = .ok (.return_, 1) := by decide +kernel
theorem dX7_begin_0 : decode cX7_begin 0 = .ok (.aload_n 0, 1) := by decide +kernel
theorem dX7_begin_1 : decode cX7_begin 1 = .ok (.iload_n 1, 1) := by decide +kernel
theorem dX7_begin_2 : decode cX7_begin 2 = .ok (.putfield 15, 3) := by decide +kernel
theorem dX7_begin_5 : decode cX7_begin 5 = .ok (.aload_n 0, 1) := by decide +kernel
theorem dX7_begin_6 : decode cX7_begin 6 = .ok (.iload_n 1, 1) := by decide +kernel
theorem dX7_begin_7 : decode cX7_begin 7 = .ok (.ifCond .eq 8, 3) := by decide +kernel
theorem dX7_begin_10 : decode cX7_begin 10 = .ok (.iload_n 1, 1) := by decide +kernel
theorem dX7_begin_11 : decode cX7_begin 11 = .ok (.iconst 1, 1) := by decide +kernel
theorem dX7_begin_12 : decode cX7_begin 12 = .ok (.if_icmp .ne 8, 3) := by decide +kernel
theorem dX7_begin_15 : decode cX7_begin 15 = .ok (.bipush 64, 2) := by decide +kernel
theorem dX7_begin_17 : decode cX7_begin 17 = .ok (.goto 4, 3) := by decide +kernel
theorem dX7_begin_20 : decode cX7_begin 20 = .ok (.iconst 1, 1) := by decide +kernel
theorem dX7_begin_21 : decode cX7_begin 21 = .ok (.putfield 19, 3) := by decide +kernel
theorem dX7_begin_24 : decode cX7_begin 24 = .ok (.aload_n 0, 1) := by decide +kernel
theorem dX7_begin_25 : decode cX7_begin 25 = .ok (.iconst 0, 1) := by decide +kernel
theorem dX7_begin_26 : decode cX7_begin 26 = .ok (.putfield 22, 3) := by decide +kernel
theorem dX7_begin_29 : decode cX7_begin 29 = .ok (.aload_n 0, 1) := by decide +kernel
theorem dX7_begin_30 : decode cX7_begin 30 = .ok (.iconst 0, 1) := by decide +kernel
theorem dX7_begin_31 : decode cX7_begin 31 = .ok (.putfield 25, 3) := by decide +kernel
theorem dX7_begin_34 : decode cX7_begin 34 = .ok (.aload_n 0, 1) := by decide +kernel
theorem dX7_begin_35 : decode cX7_begin 35 = .ok (.iconst 0, 1) := by decide +kernel
theorem dX7_begin_36 : decode cX7_begin 36 = .ok (.putfield 28, 3) := by decide +kernel
theorem dX7_begin_39 : decode cX7_begin 39 = .ok (.aload_n 0, 1) := by decide +kernel
theorem dX7_begin_40 : decode cX7_begin 40 = .ok (.iload_n 2, 1) := by decide +kernel
theorem dX7_begin_41 : decode cX7_begin 41 = .ok (.putfield 31, 3) := by decide +kernel
theorem dX7_begin_44 : decode cX7_begin 44 = .ok (.aload_n 0, 1) := by decide +kernel
theorem dX7_begin_45 : decode cX7_begin 45 = .ok (.iload_n 2, 1) := by decide +kernel
theorem dX7_begin_46 : decode cX7_begin 46 = .ok (.putfield 34, 3) := by decide +kernel
theorem dX7_begin_49 : decode cX7_begin 49 = .ok (.return_, 1) := by decide +kernel
theorem dX7_setLength_0 : decode cX7_setLength 0 = .ok (.aload_n 0, 1) := by decide +kernel
theorem dX7_setLength_1 : decode cX7_setLength 1 = .ok (.iload_n 1, 1) := by decide +kernel
theorem dX7_setLength_2 : decode cX7_setLength 2 = .ok (.putfield 31, 3) := by decide +kernel
theorem dX7_setLength_5 : decode cX7_setLength 5 = .ok (.aload_n 0, 1) := by decide +kernel
theorem dX7_setLength_6 : decode cX7_setLength 6 = .ok (.iload_n 1, 1) := by decide +kernel
theorem dX7_setLength_7 : decode cX7_setLength 7 = .ok (.putfield 34, 3) := by decide +kernel
theorem dX7_setLength_10 : decode cX7_setLength 10 = .ok (.return_, 1) := by decide +kernel
theorem dX7_copyPart_0 : decode cX7_copyPart 0 = .ok (.aload_n 0, 1) := by decide +kernel
theorem dX7_copyPart_1 : decode cX7_copyPart 1 = .ok (.aload_n 1, 1) := by decide +kernel
theorem dX7_copyPart_2 : decode cX7_copyPart 2 = .ok (.getfield 37, 3) := by decide +kernel
theorem dX7_copyPart_5 : decode cX7_copyPart 5 = .ok (.putfield 37, 3) := by decide +kernel
theorem dX7_copyPart_8 : decode cX7_copyPart 8 = .ok (.aload_n 0, 1) := by decide +kernel
theorem dX7_copyPart_9 : decode cX7_copyPart 9 = .ok (.aload_n 1, 1) := by decide +kernel
theorem dX7_copyPart_10 : decode cX7_copyPart 10 = .ok (.getfield 40, 3) := by decide +kernel
theorem dX7_copyPart_13 : decode cX7_copyPart 13 = .ok (.putfield 40, 3) := by decide +kernel
theorem dX7_copyPart_16 : decode cX7_copyPart 16 = .ok (.aload_n 0, 1) := by decide +kernel
theorem dX7_copyPart_17 : decode cX7_copyPart 17 = .ok (.aload_n 1, 1) := by decide +kernel
theorem dX7_copyPart_18 : decode cX7_copyPart 18 = .ok (.getfield 15, 3) := by decide +kernel
theorem dX7_copyPart_21 : decode cX7_copyPart 21 = .ok (.putfield 15, 3) := by decide +kernel
theorem dX7_copyPart_24 : decode cX7_copyPart 24 = .ok (.aload_n 0, 1) := by decide +kernel
theorem dX7_copyPart_25 : decode cX7_copyPart 25 = .ok (.aload_n 1, 1) := by decide +kernel
theorem dX7_copyPart_26 : decode cX7_copyPart 26 = .ok (.getfield 43, 3) := by decide +kernel
theorem dX7_copyPart_29 : decode cX7_copyPart 29 = .ok (.putfield 43, 3) := by decide +kernel
theorem dX7_copyPart_32 : decode cX7_copyPart 32 = .ok (.aload_n 0, 1) := by decide +kernel
theorem dX7_copyPart_33 : decode cX7_copyPart 33 = .ok (.aload_n 1, 1) := by decide +kernel
theorem dX7_copyPart_34 : decode cX7_copyPart 34 = .ok (.getfield 19, 3) := by decide +kernel
theorem dX7_copyPart_37 : decode cX7_copyPart 37 = .ok (.putfield 19, 3) := by decide +kernel
theorem dX7_copyPart_40 : decode cX7_copyPart 40 = .ok (.aload_n 0, 1) := by decide +kernel
theorem dX7_copyPart_41 : decode cX7_copyPart 41 = .ok (.aload_n 1, 1) := by decide +kernel
theorem dX7_copyPart_42 : decode cX7_copyPart 42 = .ok (.getfield 25, 3) := by decide +kernel
theorem dX7_copyPart_45 : decode cX7_copyPart 45 = .ok (.putfield 25, 3) := by decide +kernel
theorem dX7_copyPart_48 : decode cX7_copyPart 48 = .ok (.aload_n 0, 1) := by decide +kernel
theorem dX7_copyPart_49 : decode cX7_copyPart 49 = .ok (.aload_n 1, 1) := by decide +kernel
theorem dX7_copyPart_50 : decode cX7_copyPart 50 = .ok (.getfield 28, 3) := by decide +kernel
theorem dX7_copyPart_53 : decode cX7_copyPart 53 = .ok (.putfield 28, 3) := by decide +kernel
theorem dX7_copyPart_56 : decode cX7_copyPart 56 = .ok (.aload_n 0, 1) := by decide +kernel
theorem dX7_copyPart_57 : decode cX7_copyPart 57 = .ok (.aload_n 1, 1) := by decide +kernel
theorem dX7_copyPart_58 : decode cX7_copyPart 58 = .ok (.getfield 34, 3) := by decide +kernel
theorem dX7_copyPart_61 : decode cX7_copyPart 61 = .ok (.putfield 34, 3) := by decide +kernel
theorem dX7_copyPart_64 : decode cX7_copyPart 64 = .ok (.aload_n 0, 1) := by decide +kernel
theorem dX7_copyPart_65 : decode cX7_copyPart 65 = .ok (.aload_n 1, 1) := by decide +kernel
theorem dX7_copyPart_66 : decode cX7_copyPart 66 = .ok (.getfield 22, 3) := by decide +kernel
theorem dX7_copyPart_69 : decode cX7_copyPart 69 = .ok (.iload_n 2, 1) := by decide +kernel
theorem dX7_copyPart_70 : decode cX7_copyPart 70 = .ok (.iadd, 1) := by decide +kernel
theorem dX7_copyPart_71 : decode cX7_copyPart 71 = .ok (.putfield 22, 3) := by decide +kernel
theorem dX7_copyPart_74 : decode cX7_copyPart 74 = .ok (.aload_n 0, 1) := by decide +kernel
theorem dX7_copyPart_75 : decode cX7_copyPart 75 = .ok (.iload_n 3, 1) := by decide +kernel
theorem dX7_copyPart_76 : decode cX7_copyPart 76 = .ok (.putfield 31, 3) := by decide +kernel
theorem dX7_copyPart_79 : decode cX7_copyPart 79 = .ok (.iload_n 2, 1) := by decide +kernel
theorem dX7_copyPart_80 : decode cX7_copyPart 80 = .ok (.ifCond .lt 30, 3) := by decide +kernel
theorem dX7_copyPart_83 : decode cX7_copyPart 83 = .ok (.iload_n 3, 1) := by decide +kernel
theorem dX7_copyPart_84 : decode cX7_copyPart 84 = .ok (.ifCond .le 26, 3) := by decide +kernel
theorem dX7_copyPart_87 : decode cX7_copyPart 87 = .ok (.iload_n 2, 1) := by decide +kernel
theorem dX7_copyPart_88 : decode cX7_copyPart 88 = .ok (.iload_n 3, 1) := by decide +kernel
theorem dX7_copyPart_89 : decode cX7_copyPart 89 = .ok (.iadd, 1) := by decide +kernel
theorem dX7_copyPart_90 : decode cX7_copyPart 90 = .ok (.sipush 1480, 3) := by decide +kernel
theorem dX7_copyPart_93 : decode cX7_copyPart 93 = .ok (.if_icmp .gt 17, 3) := by decide +kernel
theorem dX7_copyPart_96 : decode cX7_copyPart 96 = .ok (.aload_n 1, 1) := by decide +kernel
theorem dX7_copyPart_97 : decode cX7_copyPart 97 = .ok (.getfield 9, 3) := by decide +kernel
theorem dX7_copyPart_100 : decode cX7_copyPart 100 = .ok (.iload_n 2, 1) := by decide +kernel
theorem dX7_copyPart_101 : decode cX7_copyPart 101 = .ok (.aload_n 0, 1) := by decide +kernel
theorem dX7_copyPart_102 : decode cX7_copyPart 102 = .ok (.getfield 9, 3) := by decide +kernel
theorem dX7_copyPart_105 : decode cX7_copyPart 105 = .ok (.iconst 0, 1) := by decide +kernel
theorem dX7_copyPart_106 : decode cX7_copyPart 106 = .ok (.iload_n 3, 1) := by decide +kernel
theorem dX7_copyPart_107 : decode cX7_copyPart 107 = .ok (.invokestatic 46, 3) := by decide +kernel
theorem dX7_copyPart_110 : decode cX7_copyPart 110 = .ok (.return_, 1) := by decide +kernel
theorem dX7_put2_0 : decode cX7_put2 0 = .ok (.iload_n 1, 1) := by decide +kernel
theorem dX7_put2_1 : decode cX7_put2 1 = .ok (.ifCond .lt 12, 3) := by decide +kernel
theorem dX7_put2_4 : decode cX7_put2 4 = .ok (.iload_n 1, 1) := by decide +kernel
theorem dX7_put2_5 : decode cX7_put2 5 = .ok (.iconst 2, 1) := by decide +kernel
theorem dX7_put2_6 : decode cX7_put2 6 = .ok (.iadd, 1) := by decide +kernel
theorem dX7_put2_7 : decode cX7_put2 7 = .ok (.sipush 1480, 3) := by decide +kernel
theorem dX7_put2_10 : decode cX7_put2 10 = .ok (.if_icmp .le 4, 3) := by decide +kernel
theorem dX7_put2_13 : decode cX7_put2 13 = .ok (.return_, 1) := by decide +kernel
theorem dX7_put2_14 : decode cX7_put2 14 = .ok (.aload_n 0, 1) := by decide +kernel
theorem dX7_put2_15 : decode cX7_put2 15 = .ok (.getfield 9, 3) := by decide +kernel
theorem dX7_put2_18 : decode cX7_put2 18 = .ok (.iload_n 1, 1) := by decide +kernel
theorem dX7_put2_19 : decode cX7_put2 19 = .ok (.iload_n 2, 1) := by decide +kernel
theorem dX7_put2_20 : decode cX7_put2 20 = .ok (.bipush 8, 2) := by decide +kernel
theorem dX7_put2_22 : decode cX7_put2 22 = .ok (.ishr, 1) := by decide +kernel
theorem dX7_put2_23 : decode cX7_put2 23 = .ok (.i2b, 1) := by decide +kernel
theorem dX7_put2_24 : decode cX7_put2 24 = .ok (.bastore, 1) := by decide +kernel
theorem dX7_put2_25 : decode cX7_put2 25 = .ok (.aload_n 0, 1) := by decide +kernel
theorem dX7_put2_26 : decode cX7_put2 26 = .ok (.getfield 9, 3) := by decide +kernel
theorem dX7_put2_29 : decode cX7_put2 29 = .ok (.iload_n 1, 1) := by decide +kernel
theorem dX7_put2_30 : decode cX7_put2 30 = .ok (.iconst 1, 1) := by decide +kernel
theorem dX7_put2_31 : decode cX7_put2 31 = .ok (.iadd, 1) := by decide +kernel
theorem dX7_put2_32 : decode cX7_put2 32 = .ok (.iload_n 2, 1) := by decide +kernel
theorem dX7_put2_33 : decode cX7_put2 33 = .ok (.i2b, 1) := by decide +kernel
theorem dX7_put2_34 : decode cX7_put2 34 = .ok (.bastore, 1) := by decide +kernel
theorem dX7_put2_35 : decode cX7_put2 35 = .ok (.return_, 1) := by decide +kernel
