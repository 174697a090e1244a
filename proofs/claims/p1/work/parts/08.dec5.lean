theorem dX19_fill_0 : decode cX19_fill 0 = .ok (.aload_n 0, 1) := by decide +kernel
theorem dX19_fill_1 : decode cX19_fill 1 = .ok (.iload_n 1, 1) := by decide +kernel
theorem dX19_fill_2 : decode cX19_fill 2 = .ok (.iload_n 2, 1) := by decide +kernel
theorem dX19_fill_3 : decode cX19_fill 3 = .ok (.invokevirtual 901, 3) := by decide +kernel
theorem dX19_fill_6 : decode cX19_fill 6 = .ok (.astore 6, 2) := by decide +kernel
theorem dX19_fill_8 : decode cX19_fill 8 = .ok (.aload_n 0, 1) := by decide +kernel
theorem dX19_fill_9 : decode cX19_fill 9 = .ok (.aload_n 0, 1) := by decide +kernel
theorem dX19_fill_10 : decode cX19_fill 10 = .ok (.iload_n 1, 1) := by decide +kernel
theorem dX19_fill_11 : decode cX19_fill 11 = .ok (.iload_n 2, 1) := by decide +kernel
theorem dX19_fill_12 : decode cX19_fill 12 = .ok (.invokevirtual 892, 3) := by decide +kernel
theorem dX19_fill_15 : decode cX19_fill 15 = .ok (.ifCond .eq 17, 3) := by decide +kernel
theorem dX19_fill_18 : decode cX19_fill 18 = .ok (.iload 5, 2) := by decide +kernel
theorem dX19_fill_20 : decode cX19_fill 20 = .ok (.iconst 1, 1) := by decide +kernel
theorem dX19_fill_21 : decode cX19_fill 21 = .ok (.if_icmp .lt 11, 3) := by decide +kernel
theorem dX19_fill_24 : decode cX19_fill 24 = .ok (.iload 5, 2) := by decide +kernel
theorem dX19_fill_26 : decode cX19_fill 26 = .ok (.sipush 2048, 3) := by decide +kernel
theorem dX19_fill_29 : decode cX19_fill 29 = .ok (.if_icmp .le 7, 3) := by decide +kernel
theorem dX19_fill_32 : decode cX19_fill 32 = .ok (.iconst 1, 1) := by decide +kernel
theorem dX19_fill_33 : decode cX19_fill 33 = .ok (.goto 4, 3) := by decide +kernel
theorem dX19_fill_36 : decode cX19_fill 36 = .ok (.iconst 0, 1) := by decide +kernel
theorem dX19_fill_37 : decode cX19_fill 37 = .ok (.aload 6, 2) := by decide +kernel
theorem dX19_fill_39 : decode cX19_fill 39 = .ok (.ifnull 11, 3) := by decide +kernel
theorem dX19_fill_42 : decode cX19_fill 42 = .ok (.aload 6, 2) := by decide +kernel
theorem dX19_fill_44 : decode cX19_fill 44 = .ok (.invokevirtual 905, 3) := by decide +kernel
theorem dX19_fill_47 : decode cX19_fill 47 = .ok (.ifCond .ne 7, 3) := by decide +kernel
theorem dX19_fill_50 : decode cX19_fill 50 = .ok (.iconst 1, 1) := by decide +kernel
theorem dX19_fill_51 : decode cX19_fill 51 = .ok (.goto 4, 3) := by decide +kernel
theorem dX19_fill_54 : decode cX19_fill 54 = .ok (.iconst 0, 1) := by decide +kernel
theorem dX19_fill_55 : decode cX19_fill 55 = .ok (.invokevirtual 865, 3) := by decide +kernel
theorem dX19_fill_58 : decode cX19_fill 58 = .ok (.ifCond .eq 5, 3) := by decide +kernel
theorem dX19_fill_61 : decode cX19_fill 61 = .ok (.iconst 0, 1) := by decide +kernel
theorem dX19_fill_62 : decode cX19_fill 62 = .ok (.ireturn, 1) := by decide +kernel
theorem dX19_fill_63 : decode cX19_fill 63 = .ok (.iconst 0, 1) := by decide +kernel
theorem dX19_fill_64 : decode cX19_fill 64 = .ok (.istore 7, 2) := by decide +kernel
theorem dX19_fill_66 : decode cX19_fill 66 = .ok (.iload 7, 2) := by decide +kernel
theorem dX19_fill_68 : decode cX19_fill 68 = .ok (.iload 5, 2) := by decide +kernel
theorem dX19_fill_70 : decode cX19_fill 70 = .ok (.if_icmp .ge 25, 3) := by decide +kernel
theorem dX19_fill_73 : decode cX19_fill 73 = .ok (.aload_n 0, 1) := by decide +kernel
theorem dX19_fill_74 : decode cX19_fill 74 = .ok (.aload 6, 2) := by decide +kernel
theorem dX19_fill_76 : decode cX19_fill 76 = .ok (.iload_n 3, 1) := by decide +kernel
theorem dX19_fill_77 : decode cX19_fill 77 = .ok (.iload 4, 2) := by decide +kernel
theorem dX19_fill_79 : decode cX19_fill 79 = .ok (.iload 7, 2) := by decide +kernel
theorem dX19_fill_81 : decode cX19_fill 81 = .ok (.imul, 1) := by decide +kernel
theorem dX19_fill_82 : decode cX19_fill 82 = .ok (.iadd, 1) := by decide +kernel
theorem dX19_fill_83 : decode cX19_fill 83 = .ok (.invokevirtual 908, 3) := by decide +kernel
theorem dX19_fill_86 : decode cX19_fill 86 = .ok (.ifCond .eq 9, 3) := by decide +kernel
theorem dX19_fill_89 : decode cX19_fill 89 = .ok (.iinc 7 1, 3) := by decide +kernel
theorem dX19_fill_92 : decode cX19_fill 92 = .ok (.goto (-26), 3) := by decide +kernel
theorem dX19_fill_95 : decode cX19_fill 95 = .ok (.aload 6, 2) := by decide +kernel
theorem dX19_fill_97 : decode cX19_fill 97 = .ok (.aload_n 0, 1) := by decide +kernel
theorem dX19_fill_98 : decode cX19_fill 98 = .ok (.getfield 143, 3) := by decide +kernel
theorem dX19_fill_101 : decode cX19_fill 101 = .ok (.invokevirtual 819, 3) := by decide +kernel
theorem dX19_fill_104 : decode cX19_fill 104 = .ok (.aload_n 0, 1) := by decide +kernel
theorem dX19_fill_105 : decode cX19_fill 105 = .ok (.invokevirtual 168, 3) := by decide +kernel
theorem dX19_fill_108 : decode cX19_fill 108 = .ok (.iload 7, 2) := by decide +kernel
theorem dX19_fill_110 : decode cX19_fill 110 = .ok (.ireturn, 1) := by decide +kernel
theorem dX19_canRead_0 : decode cX19_canRead 0 = .ok (.aload_n 0, 1) := by decide +kernel
theorem dX19_canRead_1 : decode cX19_canRead 1 = .ok (.ifnull 36, 3) := by decide +kernel
theorem dX19_canRead_4 : decode cX19_canRead 4 = .ok (.aload_n 0, 1) := by decide +kernel
theorem dX19_canRead_5 : decode cX19_canRead 5 = .ok (.invokevirtual 679, 3) := by decide +kernel
theorem dX19_canRead_8 : decode cX19_canRead 8 = .ok (.ifCond .gt 25, 3) := by decide +kernel
theorem dX19_canRead_11 : decode cX19_canRead 11 = .ok (.aload_n 0, 1) := by decide +kernel
theorem dX19_canRead_12 : decode cX19_canRead 12 = .ok (.getfield 682, 3) := by decide +kernel
theorem dX19_canRead_15 : decode cX19_canRead 15 = .ok (.ifCond .ne 18, 3) := by decide +kernel
theorem dX19_canRead_18 : decode cX19_canRead 18 = .ok (.aload_n 0, 1) := by decide +kernel
theorem dX19_canRead_19 : decode cX19_canRead 19 = .ok (.invokevirtual 776, 3) := by decide +kernel
theorem dX19_canRead_22 : decode cX19_canRead 22 = .ok (.ifCond .ne 15, 3) := by decide +kernel
theorem dX19_canRead_25 : decode cX19_canRead 25 = .ok (.aload_n 0, 1) := by decide +kernel
theorem dX19_canRead_26 : decode cX19_canRead 26 = .ok (.getfield 353, 3) := by decide +kernel
theorem dX19_canRead_29 : decode cX19_canRead 29 = .ok (.iconst 1, 1) := by decide +kernel
theorem dX19_canRead_30 : decode cX19_canRead 30 = .ok (.if_icmp .eq 7, 3) := by decide +kernel
theorem dX19_canRead_33 : decode cX19_canRead 33 = .ok (.iconst 1, 1) := by decide +kernel
theorem dX19_canRead_34 : decode cX19_canRead 34 = .ok (.goto 4, 3) := by decide +kernel
theorem dX19_canRead_37 : decode cX19_canRead 37 = .ok (.iconst 0, 1) := by decide +kernel
theorem dX19_canRead_38 : decode cX19_canRead 38 = .ok (.ireturn, 1) := by decide +kernel
theorem dX19_read__0 : decode cX19_read_ 0 = .ok (.aload_n 0, 1) := by decide +kernel
theorem dX19_read__1 : decode cX19_read_ 1 = .ok (.iload_n 1, 1) := by decide +kernel
theorem dX19_read__2 : decode cX19_read_ 2 = .ok (.iload_n 2, 1) := by decide +kernel
theorem dX19_read__3 : decode cX19_read_ 3 = .ok (.invokevirtual 901, 3) := by decide +kernel
theorem dX19_read__6 : decode cX19_read_ 6 = .ok (.astore_n 3, 1) := by decide +kernel
theorem dX19_read__7 : decode cX19_read_ 7 = .ok (.aload_n 0, 1) := by decide +kernel
theorem dX19_read__8 : decode cX19_read_ 8 = .ok (.aload_n 0, 1) := by decide +kernel
theorem dX19_read__9 : decode cX19_read_ 9 = .ok (.iload_n 1, 1) := by decide +kernel
theorem dX19_read__10 : decode cX19_read_ 10 = .ok (.iload_n 2, 1) := by decide +kernel
theorem dX19_read__11 : decode cX19_read_ 11 = .ok (.invokevirtual 892, 3) := by decide +kernel
theorem dX19_read__14 : decode cX19_read_ 14 = .ok (.ifCond .ne 7, 3) := by decide +kernel
theorem dX19_read__17 : decode cX19_read_ 17 = .ok (.iconst 1, 1) := by decide +kernel
theorem dX19_read__18 : decode cX19_read_ 18 = .ok (.goto 4, 3) := by decide +kernel
theorem dX19_read__21 : decode cX19_read_ 21 = .ok (.iconst 0, 1) := by decide +kernel
theorem dX19_read__22 : decode cX19_read_ 22 = .ok (.aload_n 3, 1) := by decide +kernel
theorem dX19_read__23 : decode cX19_read_ 23 = .ok (.invokestatic 911, 3) := by decide +kernel
theorem dX19_read__26 : decode cX19_read_ 26 = .ok (.ifCond .ne 7, 3) := by decide +kernel
theorem dX19_read__29 : decode cX19_read_ 29 = .ok (.iconst 1, 1) := by decide +kernel
theorem dX19_read__30 : decode cX19_read_ 30 = .ok (.goto 4, 3) := by decide +kernel
theorem dX19_read__33 : decode cX19_read_ 33 = .ok (.iconst 0, 1) := by decide +kernel
theorem dX19_read__34 : decode cX19_read_ 34 = .ok (.invokevirtual 865, 3) := by decide +kernel
theorem dX19_read__37 : decode cX19_read_ 37 = .ok (.ifCond .eq 5, 3) := by decide +kernel
theorem dX19_read__40 : decode cX19_read_ 40 = .ok (.iconst 0, 1) := by decide +kernel
theorem dX19_read__41 : decode cX19_read_ 41 = .ok (.ireturn, 1) := by decide +kernel
theorem dX19_read__42 : decode cX19_read_ 42 = .ok (.aload_n 3, 1) := by decide +kernel
theorem dX19_read__43 : decode cX19_read_ 43 = .ok (.invokevirtual 679, 3) := by decide +kernel
theorem dX19_read__46 : decode cX19_read_ 46 = .ok (.ifCond .le 11, 3) := by decide +kernel
theorem dX19_read__49 : decode cX19_read_ 49 = .ok (.aload_n 0, 1) := by decide +kernel
theorem dX19_read__50 : decode cX19_read_ 50 = .ok (.aload_n 3, 1) := by decide +kernel
theorem dX19_read__51 : decode cX19_read_ 51 = .ok (.invokevirtual 822, 3) := by decide +kernel
theorem dX19_read__54 : decode cX19_read_ 54 = .ok (.goto 16, 3) := by decide +kernel
theorem dX19_read__57 : decode cX19_read_ 57 = .ok (.aload_n 3, 1) := by decide +kernel
theorem dX19_read__58 : decode cX19_read_ 58 = .ok (.getfield 682, 3) := by decide +kernel
theorem dX19_read__61 : decode cX19_read_ 61 = .ok (.ifCond .eq 8, 3) := by decide +kernel
theorem dX19_read__64 : decode cX19_read_ 64 = .ok (.bipush (-2), 2) := by decide +kernel
theorem dX19_read__66 : decode cX19_read_ 66 = .ok (.goto 4, 3) := by decide +kernel
theorem dX19_read__69 : decode cX19_read_ 69 = .ok (.iconst (-1), 1) := by decide +kernel
theorem dX19_read__70 : decode cX19_read_ 70 = .ok (.ireturn, 1) := by decide +kernel
theorem dX19_readAll_0 : decode cX19_readAll 0 = .ok (.aload_n 0, 1) := by decide +kernel
theorem dX19_readAll_1 : decode cX19_readAll 1 = .ok (.iload_n 1, 1) := by decide +kernel
theorem dX19_readAll_2 : decode cX19_readAll 2 = .ok (.iload_n 2, 1) := by decide +kernel
theorem dX19_readAll_3 : decode cX19_readAll 3 = .ok (.invokevirtual 901, 3) := by decide +kernel
theorem dX19_readAll_6 : decode cX19_readAll 6 = .ok (.astore 4, 2) := by decide +kernel
theorem dX19_readAll_8 : decode cX19_readAll 8 = .ok (.aload_n 0, 1) := by decide +kernel
theorem dX19_readAll_9 : decode cX19_readAll 9 = .ok (.aload_n 0, 1) := by decide +kernel
theorem dX19_readAll_10 : decode cX19_readAll 10 = .ok (.iload_n 1, 1) := by decide +kernel
theorem dX19_readAll_11 : decode cX19_readAll 11 = .ok (.iload_n 2, 1) := by decide +kernel
theorem dX19_readAll_12 : decode cX19_readAll 12 = .ok (.invokevirtual 892, 3) := by decide +kernel
theorem dX19_readAll_15 : decode cX19_readAll 15 = .ok (.ifCond .eq 15, 3) := by decide +kernel
theorem dX19_readAll_18 : decode cX19_readAll 18 = .ok (.iload_n 3, 1) := by decide +kernel
theorem dX19_readAll_19 : decode cX19_readAll 19 = .ok (.iconst 1, 1) := by decide +kernel
theorem dX19_readAll_20 : decode cX19_readAll 20 = .ok (.if_icmp .lt 10, 3) := by decide +kernel
theorem dX19_readAll_23 : decode cX19_readAll 23 = .ok (.iload_n 3, 1) := by decide +kernel
theorem dX19_readAll_24 : decode cX19_readAll 24 = .ok (.sipush 2048, 3) := by decide +kernel
theorem dX19_readAll_27 : decode cX19_readAll 27 = .ok (.if_icmp .le 7, 3) := by decide +kernel
theorem dX19_readAll_30 : decode cX19_readAll 30 = .ok (.iconst 1, 1) := by decide +kernel
theorem dX19_readAll_31 : decode cX19_readAll 31 = .ok (.goto 4, 3) := by decide +kernel
theorem dX19_readAll_34 : decode cX19_readAll 34 = .ok (.iconst 0, 1) := by decide +kernel
theorem dX19_readAll_35 : decode cX19_readAll 35 = .ok (.aload 4, 2) := by decide +kernel
theorem dX19_readAll_37 : decode cX19_readAll 37 = .ok (.invokestatic 911, 3) := by decide +kernel
theorem dX19_readAll_40 : decode cX19_readAll 40 = .ok (.ifCond .ne 7, 3) := by decide +kernel
theorem dX19_readAll_43 : decode cX19_readAll 43 = .ok (.iconst 1, 1) := by decide +kernel
theorem dX19_readAll_44 : decode cX19_readAll 44 = .ok (.goto 4, 3) := by decide +kernel
theorem dX19_readAll_47 : decode cX19_readAll 47 = .ok (.iconst 0, 1) := by decide +kernel
theorem dX19_readAll_48 : decode cX19_readAll 48 = .ok (.invokevirtual 865, 3) := by decide +kernel
theorem dX19_readAll_51 : decode cX19_readAll 51 = .ok (.ifCond .eq 5, 3) := by decide +kernel
theorem dX19_readAll_54 : decode cX19_readAll 54 = .ok (.iconst 0, 1) := by decide +kernel
theorem dX19_readAll_55 : decode cX19_readAll 55 = .ok (.ireturn, 1) := by decide +kernel
theorem dX19_readAll_56 : decode cX19_readAll 56 = .ok (.iconst 1, 1) := by decide +kernel
theorem dX19_readAll_57 : decode cX19_readAll 57 = .ok (.istore 5, 2) := by decide +kernel
theorem dX19_readAll_59 : decode cX19_readAll 59 = .ok (.iconst 0, 1) := by decide +kernel
theorem dX19_readAll_60 : decode cX19_readAll 60 = .ok (.istore 6, 2) := by decide +kernel
theorem dX19_readAll_62 : decode cX19_readAll 62 = .ok (.iload 6, 2) := by decide +kernel
theorem dX19_readAll_64 : decode cX19_readAll 64 = .ok (.iload_n 3, 1) := by decide +kernel
theorem dX19_readAll_65 : decode cX19_readAll 65 = .ok (.if_icmp .ge 31, 3) := by decide +kernel
theorem dX19_readAll_68 : decode cX19_readAll 68 = .ok (.aload 4, 2) := by decide +kernel
theorem dX19_readAll_70 : decode cX19_readAll 70 = .ok (.invokevirtual 679, 3) := by decide +kernel
theorem dX19_readAll_73 : decode cX19_readAll 73 = .ok (.ifCond .le 23, 3) := by decide +kernel
theorem dX19_readAll_76 : decode cX19_readAll 76 = .ok (.bipush 31, 2) := by decide +kernel
theorem dX19_readAll_78 : decode cX19_readAll 78 = .ok (.iload 5, 2) := by decide +kernel
theorem dX19_readAll_80 : decode cX19_readAll 80 = .ok (.imul, 1) := by decide +kernel
theorem dX19_readAll_81 : decode cX19_readAll 81 = .ok (.aload_n 0, 1) := by decide +kernel
theorem dX19_readAll_82 : decode cX19_readAll 82 = .ok (.aload 4, 2) := by decide +kernel
theorem dX19_readAll_84 : decode cX19_readAll 84 = .ok (.invokevirtual 822, 3) := by decide +kernel
theorem dX19_readAll_87 : decode cX19_readAll 87 = .ok (.iadd, 1) := by decide +kernel
theorem dX19_readAll_88 : decode cX19_readAll 88 = .ok (.istore 5, 2) := by decide +kernel
theorem dX19_readAll_90 : decode cX19_readAll 90 = .ok (.iinc 6 1, 3) := by decide +kernel
theorem dX19_readAll_93 : decode cX19_readAll 93 = .ok (.goto (-31), 3) := by decide +kernel
theorem dX19_readAll_96 : decode cX19_readAll 96 = .ok (.iload 5, 2) := by decide +kernel
theorem dX19_readAll_98 : decode cX19_readAll 98 = .ok (.ireturn, 1) := by decide +kernel
theorem dX19_close_0 : decode cX19_close 0 = .ok (.aload_n 0, 1) := by decide +kernel
theorem dX19_close_1 : decode cX19_close 1 = .ok (.iload_n 1, 1) := by decide +kernel
theorem dX19_close_2 : decode cX19_close 2 = .ok (.iload_n 2, 1) := by decide +kernel
theorem dX19_close_3 : decode cX19_close 3 = .ok (.invokevirtual 901, 3) := by decide +kernel
theorem dX19_close_6 : decode cX19_close 6 = .ok (.astore_n 3, 1) := by decide +kernel
theorem dX19_close_7 : decode cX19_close 7 = .ok (.aload_n 0, 1) := by decide +kernel
theorem dX19_close_8 : decode cX19_close 8 = .ok (.iload_n 1, 1) := by decide +kernel
theorem dX19_close_9 : decode cX19_close 9 = .ok (.iload_n 2, 1) := by decide +kernel
theorem dX19_close_10 : decode cX19_close 10 = .ok (.invokevirtual 892, 3) := by decide +kernel
theorem dX19_close_13 : decode cX19_close 13 = .ok (.istore 4, 2) := by decide +kernel
theorem dX19_close_15 : decode cX19_close 15 = .ok (.iload 4, 2) := by decide +kernel
theorem dX19_close_17 : decode cX19_close 17 = .ok (.ifCond .eq 24, 3) := by decide +kernel
theorem dX19_close_20 : decode cX19_close 20 = .ok (.aload_n 0, 1) := by decide +kernel
theorem dX19_close_21 : decode cX19_close 21 = .ok (.getfield 114, 3) := by decide +kernel
theorem dX19_close_24 : decode cX19_close 24 = .ok (.iload_n 1, 1) := by decide +kernel
theorem dX19_close_25 : decode cX19_close 25 = .ok (.aaload, 1) := by decide +kernel
theorem dX19_close_26 : decode cX19_close 26 = .ok (.getfield 340, 3) := by decide +kernel
theorem dX19_close_29 : decode cX19_close 29 = .ok (.iload_n 2, 1) := by decide +kernel
theorem dX19_close_30 : decode cX19_close 30 = .ok (.aaload, 1) := by decide +kernel
theorem dX19_close_31 : decode cX19_close 31 = .ok (.getfield 747, 3) := by decide +kernel
theorem dX19_close_34 : decode cX19_close 34 = .ok (.ifCond .eq 7, 3) := by decide +kernel
theorem dX19_close_37 : decode cX19_close 37 = .ok (.iconst 1, 1) := by decide +kernel
theorem dX19_close_38 : decode cX19_close 38 = .ok (.goto 4, 3) := by decide +kernel
theorem dX19_close_41 : decode cX19_close 41 = .ok (.iconst 0, 1) := by decide +kernel
theorem dX19_close_42 : decode cX19_close 42 = .ok (.istore 5, 2) := by decide +kernel
theorem dX19_close_44 : decode cX19_close 44 = .ok (.aload_n 0, 1) := by decide +kernel
theorem dX19_close_45 : decode cX19_close 45 = .ok (.iload 4, 2) := by decide +kernel
theorem dX19_close_47 : decode cX19_close 47 = .ok (.ifCond .ne 7, 3) := by decide +kernel
theorem dX19_close_50 : decode cX19_close 50 = .ok (.iconst 1, 1) := by decide +kernel
theorem dX19_close_51 : decode cX19_close 51 = .ok (.goto 4, 3) := by decide +kernel
theorem dX19_close_54 : decode cX19_close 54 = .ok (.iconst 0, 1) := by decide +kernel
theorem dX19_close_55 : decode cX19_close 55 = .ok (.iload 4, 2) := by decide +kernel
theorem dX19_close_57 : decode cX19_close 57 = .ok (.ifCond .eq 30, 3) := by decide +kernel
theorem dX19_close_60 : decode cX19_close 60 = .ok (.iload 5, 2) := by decide +kernel
theorem dX19_close_62 : decode cX19_close 62 = .ok (.ifCond .ne 25, 3) := by decide +kernel
theorem dX19_close_65 : decode cX19_close 65 = .ok (.aload_n 3, 1) := by decide +kernel
theorem dX19_close_66 : decode cX19_close 66 = .ok (.ifnull 17, 3) := by decide +kernel
theorem dX19_close_69 : decode cX19_close 69 = .ok (.aload_n 3, 1) := by decide +kernel
theorem dX19_close_70 : decode cX19_close 70 = .ok (.getfield 634, 3) := by decide +kernel
theorem dX19_close_73 : decode cX19_close 73 = .ok (.ifCond .eq 14, 3) := by decide +kernel
theorem dX19_close_76 : decode cX19_close 76 = .ok (.aload_n 3, 1) := by decide +kernel
theorem dX19_close_77 : decode cX19_close 77 = .ok (.invokevirtual 776, 3) := by decide +kernel
theorem dX19_close_80 : decode cX19_close 80 = .ok (.ifCond .ne 7, 3) := by decide +kernel
theorem dX19_close_83 : decode cX19_close 83 = .ok (.iconst 1, 1) := by decide +kernel
theorem dX19_close_84 : decode cX19_close 84 = .ok (.goto 4, 3) := by decide +kernel
theorem dX19_close_87 : decode cX19_close 87 = .ok (.iconst 0, 1) := by decide +kernel
theorem dX19_close_88 : decode cX19_close 88 = .ok (.invokevirtual 865, 3) := by decide +kernel
theorem dX19_close_91 : decode cX19_close 91 = .ok (.ifCond .eq 4, 3) := by decide +kernel
theorem dX19_close_94 : decode cX19_close 94 = .ok (.return_, 1) := by decide +kernel
theorem dX19_close_95 : decode cX19_close 95 = .ok (.aload_n 0, 1) := by decide +kernel
theorem dX19_close_96 : decode cX19_close 96 = .ok (.getfield 114, 3) := by decide +kernel
theorem dX19_close_99 : decode cX19_close 99 = .ok (.iload_n 1, 1) := by decide +kernel
theorem dX19_close_100 : decode cX19_close 100 = .ok (.aaload, 1) := by decide +kernel
theorem dX19_close_101 : decode cX19_close 101 = .ok (.getfield 340, 3) := by decide +kernel
theorem dX19_close_104 : decode cX19_close 104 = .ok (.iload_n 2, 1) := by decide +kernel
theorem dX19_close_105 : decode cX19_close 105 = .ok (.aaload, 1) := by decide +kernel
theorem dX19_close_106 : decode cX19_close 106 = .ok (.astore 6, 2) := by decide +kernel
theorem dX19_close_108 : decode cX19_close 108 = .ok (.aload_n 0, 1) := by decide +kernel
theorem dX19_close_109 : decode cX19_close 109 = .ok (.invokevirtual 168, 3) := by decide +kernel
theorem dX19_close_112 : decode cX19_close 112 = .ok (.iload 5, 2) := by decide +kernel
theorem dX19_close_114 : decode cX19_close 114 = .ok (.ifCond .eq 96, 3) := by decide +kernel
theorem dX19_close_117 : decode cX19_close 117 = .ok (.aload 6, 2) := by decide +kernel
theorem dX19_close_119 : decode cX19_close 119 = .ok (.iconst 0, 1) := by decide +kernel
theorem dX19_close_120 : decode cX19_close 120 = .ok (.putfield 747, 3) := by decide +kernel
theorem dX19_close_123 : decode cX19_close 123 = .ok (.iconst 0, 1) := by decide +kernel
theorem dX19_close_124 : decode cX19_close 124 = .ok (.istore 7, 2) := by decide +kernel
theorem dX19_close_126 : decode cX19_close 126 = .ok (.iload 7, 2) := by decide +kernel
theorem dX19_close_128 : decode cX19_close 128 = .ok (.bipush 6, 2) := by decide +kernel
theorem dX19_close_130 : decode cX19_close 130 = .ok (.if_icmp .ge 77, 3) := by decide +kernel
theorem dX19_close_133 : decode cX19_close 133 = .ok (.aload_n 0, 1) := by decide +kernel
theorem dX19_close_134 : decode cX19_close 134 = .ok (.getfield 114, 3) := by decide +kernel
theorem dX19_close_137 : decode cX19_close 137 = .ok (.iload_n 1, 1) := by decide +kernel
theorem dX19_close_138 : decode cX19_close 138 = .ok (.aaload, 1) := by decide +kernel
theorem dX19_close_139 : decode cX19_close 139 = .ok (.getfield 340, 3) := by decide +kernel
theorem dX19_close_142 : decode cX19_close 142 = .ok (.iload 7, 2) := by decide +kernel
theorem dX19_close_144 : decode cX19_close 144 = .ok (.aaload, 1) := by decide +kernel
theorem dX19_close_145 : decode cX19_close 145 = .ok (.astore 8, 2) := by decide +kernel
theorem dX19_close_147 : decode cX19_close 147 = .ok (.aload 8, 2) := by decide +kernel
theorem dX19_close_149 : decode cX19_close 149 = .ok (.getfield 350, 3) := by decide +kernel
theorem dX19_close_152 : decode cX19_close 152 = .ok (.ifCond .eq 49, 3) := by decide +kernel
theorem dX19_close_155 : decode cX19_close 155 = .ok (.aload 8, 2) := by decide +kernel
theorem dX19_close_157 : decode cX19_close 157 = .ok (.getfield 761, 3) := by decide +kernel
theorem dX19_close_160 : decode cX19_close 160 = .ok (.iload_n 2, 1) := by decide +kernel
theorem dX19_close_161 : decode cX19_close 161 = .ok (.if_icmp .ne 40, 3) := by decide +kernel
theorem dX19_close_164 : decode cX19_close 164 = .ok (.aload 8, 2) := by decide +kernel
theorem dX19_close_166 : decode cX19_close 166 = .ok (.getfield 767, 3) := by decide +kernel
theorem dX19_close_169 : decode cX19_close 169 = .ok (.ifCond .ne 26, 3) := by decide +kernel
theorem dX19_close_172 : decode cX19_close 172 = .ok (.aload 8, 2) := by decide +kernel
theorem dX19_close_174 : decode cX19_close 174 = .ok (.getfield 344, 3) := by decide +kernel
theorem dX19_close_177 : decode cX19_close 177 = .ok (.invokevirtual 776, 3) := by decide +kernel
theorem dX19_close_180 : decode cX19_close 180 = .ok (.ifCond .ne 15, 3) := by decide +kernel
theorem dX19_close_183 : decode cX19_close 183 = .ok (.aload 8, 2) := by decide +kernel
theorem dX19_close_185 : decode cX19_close 185 = .ok (.getfield 344, 3) := by decide +kernel
theorem dX19_close_188 : decode cX19_close 188 = .ok (.aload_n 0, 1) := by decide +kernel
theorem dX19_close_189 : decode cX19_close 189 = .ok (.getfield 143, 3) := by decide +kernel
theorem dX19_close_192 : decode cX19_close 192 = .ok (.invokevirtual 915, 3) := by decide +kernel
theorem dX19_close_195 : decode cX19_close 195 = .ok (.aload 8, 2) := by decide +kernel
theorem dX19_close_197 : decode cX19_close 197 = .ok (.iconst (-1), 1) := by decide +kernel
theorem dX19_close_198 : decode cX19_close 198 = .ok (.putfield 761, 3) := by decide +kernel
theorem dX19_close_201 : decode cX19_close 201 = .ok (.iinc 7 1, 3) := by decide +kernel
theorem dX19_close_204 : decode cX19_close 204 = .ok (.goto (-78), 3) := by decide +kernel
theorem dX19_close_207 : decode cX19_close 207 = .ok (.goto 35, 3) := by decide +kernel
theorem dX19_close_210 : decode cX19_close 210 = .ok (.aload_n 3, 1) := by decide +kernel
theorem dX19_close_211 : decode cX19_close 211 = .ok (.invokevirtual 776, 3) := by decide +kernel
theorem dX19_close_214 : decode cX19_close 214 = .ok (.ifCond .eq 12, 3) := by decide +kernel
theorem dX19_close_217 : decode cX19_close 217 = .ok (.aload_n 0, 1) := by decide +kernel
theorem dX19_close_218 : decode cX19_close 218 = .ok (.aload 6, 2) := by decide +kernel
theorem dX19_close_220 : decode cX19_close 220 = .ok (.invokevirtual 824, 3) := by decide +kernel
theorem dX19_close_223 : decode cX19_close 223 = .ok (.goto 19, 3) := by decide +kernel
theorem dX19_close_226 : decode cX19_close 226 = .ok (.aload_n 3, 1) := by decide +kernel
theorem dX19_close_227 : decode cX19_close 227 = .ok (.aload_n 0, 1) := by decide +kernel
theorem dX19_close_228 : decode cX19_close 228 = .ok (.getfield 143, 3) := by decide +kernel
theorem dX19_close_231 : decode cX19_close 231 = .ok (.invokevirtual 918, 3) := by decide +kernel
theorem dX19_close_234 : decode cX19_close 234 = .ok (.aload_n 3, 1) := by decide +kernel
theorem dX19_close_235 : decode cX19_close 235 = .ok (.aload_n 0, 1) := by decide +kernel
theorem dX19_close_236 : decode cX19_close 236 = .ok (.getfield 143, 3) := by decide +kernel
theorem dX19_close_239 : decode cX19_close 239 = .ok (.invokevirtual 819, 3) := by decide +kernel
theorem dX19_close_242 : decode cX19_close 242 = .ok (.return_, 1) := by decide +kernel
theorem dX19_abort_0 : decode cX19_abort 0 = .ok (.aload_n 0, 1) := by decide +kernel
theorem dX19_abort_1 : decode cX19_abort 1 = .ok (.iload_n 1, 1) := by decide +kernel
theorem dX19_abort_2 : decode cX19_abort 2 = .ok (.iload_n 2, 1) := by decide +kernel
theorem dX19_abort_3 : decode cX19_abort 3 = .ok (.invokevirtual 901, 3) := by decide +kernel
theorem dX19_abort_6 : decode cX19_abort 6 = .ok (.astore_n 3, 1) := by decide +kernel
theorem dX19_abort_7 : decode cX19_abort 7 = .ok (.aload_n 0, 1) := by decide +kernel
theorem dX19_abort_8 : decode cX19_abort 8 = .ok (.aload_n 0, 1) := by decide +kernel
theorem dX19_abort_9 : decode cX19_abort 9 = .ok (.iload_n 1, 1) := by decide +kernel
theorem dX19_abort_10 : decode cX19_abort 10 = .ok (.iload_n 2, 1) := by decide +kernel
theorem dX19_abort_11 : decode cX19_abort 11 = .ok (.invokevirtual 892, 3) := by decide +kernel
theorem dX19_abort_14 : decode cX19_abort 14 = .ok (.ifCond .ne 7, 3) := by decide +kernel
theorem dX19_abort_17 : decode cX19_abort 17 = .ok (.iconst 1, 1) := by decide +kernel
theorem dX19_abort_18 : decode cX19_abort 18 = .ok (.goto 4, 3) := by decide +kernel
theorem dX19_abort_21 : decode cX19_abort 21 = .ok (.iconst 0, 1) := by decide +kernel
theorem dX19_abort_22 : decode cX19_abort 22 = .ok (.aload_n 3, 1) := by decide +kernel
theorem dX19_abort_23 : decode cX19_abort 23 = .ok (.ifnull 10, 3) := by decide +kernel
theorem dX19_abort_26 : decode cX19_abort 26 = .ok (.aload_n 3, 1) := by decide +kernel
theorem dX19_abort_27 : decode cX19_abort 27 = .ok (.invokevirtual 776, 3) := by decide +kernel
theorem dX19_abort_30 : decode cX19_abort 30 = .ok (.ifCond .eq 7, 3) := by decide +kernel
theorem dX19_abort_33 : decode cX19_abort 33 = .ok (.iconst 1, 1) := by decide +kernel
theorem dX19_abort_34 : decode cX19_abort 34 = .ok (.goto 4, 3) := by decide +kernel
theorem dX19_abort_37 : decode cX19_abort 37 = .ok (.iconst 0, 1) := by decide +kernel
theorem dX19_abort_38 : decode cX19_abort 38 = .ok (.invokevirtual 865, 3) := by decide +kernel
theorem dX19_abort_41 : decode cX19_abort 41 = .ok (.ifCond .ne 15, 3) := by decide +kernel
theorem dX19_abort_44 : decode cX19_abort 44 = .ok (.aload_n 3, 1) := by decide +kernel
theorem dX19_abort_45 : decode cX19_abort 45 = .ok (.aload_n 0, 1) := by decide +kernel
theorem dX19_abort_46 : decode cX19_abort 46 = .ok (.getfield 143, 3) := by decide +kernel
theorem dX19_abort_49 : decode cX19_abort 49 = .ok (.invokevirtual 915, 3) := by decide +kernel
theorem dX19_abort_52 : decode cX19_abort 52 = .ok (.aload_n 0, 1) := by decide +kernel
theorem dX19_abort_53 : decode cX19_abort 53 = .ok (.invokevirtual 168, 3) := by decide +kernel
theorem dX19_abort_56 : decode cX19_abort 56 = .ok (.return_, 1) := by decide +kernel
theorem dX19_door_0 : decode cX19_door 0 = .ok (.aload_n 0, 1) := by decide +kernel
theorem dX19_door_1 : decode cX19_door 1 = .ok (.aload_n 0, 1) := by decide +kernel
theorem dX19_door_2 : decode cX19_door 2 = .ok (.iload_n 1, 1) := by decide +kernel
theorem dX19_door_3 : decode cX19_door 3 = .ok (.iload_n 2, 1) := by decide +kernel
theorem dX19_door_4 : decode cX19_door 4 = .ok (.invokevirtual 892, 3) := by decide +kernel
theorem dX19_door_7 : decode cX19_door 7 = .ok (.ifCond .eq 13, 3) := by decide +kernel
theorem dX19_door_10 : decode cX19_door 10 = .ok (.iload_n 3, 1) := by decide +kernel
theorem dX19_door_11 : decode cX19_door 11 = .ok (.ifCond .lt 9, 3) := by decide +kernel
theorem dX19_door_14 : decode cX19_door 14 = .ok (.iload_n 3, 1) := by decide +kernel
theorem dX19_door_15 : decode cX19_door 15 = .ok (.bipush 6, 2) := by decide +kernel
theorem dX19_door_17 : decode cX19_door 17 = .ok (.if_icmp .le 7, 3) := by decide +kernel
theorem dX19_door_20 : decode cX19_door 20 = .ok (.iconst 1, 1) := by decide +kernel
theorem dX19_door_21 : decode cX19_door 21 = .ok (.goto 4, 3) := by decide +kernel
theorem dX19_door_24 : decode cX19_door 24 = .ok (.iconst 0, 1) := by decide +kernel
theorem dX19_door_25 : decode cX19_door 25 = .ok (.iconst 0, 1) := by decide +kernel
theorem dX19_door_26 : decode cX19_door 26 = .ok (.invokevirtual 865, 3) := by decide +kernel
theorem dX19_door_29 : decode cX19_door 29 = .ok (.ifCond .eq 5, 3) := by decide +kernel
theorem dX19_door_32 : decode cX19_door 32 = .ok (.iconst 0, 1) := by decide +kernel
theorem dX19_door_33 : decode cX19_door 33 = .ok (.ireturn, 1) := by decide +kernel
theorem dX19_door_34 : decode cX19_door 34 = .ok (.aload_n 0, 1) := by decide +kernel
theorem dX19_door_35 : decode cX19_door 35 = .ok (.getfield 114, 3) := by decide +kernel
theorem dX19_door_38 : decode cX19_door 38 = .ok (.iload_n 1, 1) := by decide +kernel
theorem dX19_door_39 : decode cX19_door 39 = .ok (.aaload, 1) := by decide +kernel
theorem dX19_door_40 : decode cX19_door 40 = .ok (.getfield 340, 3) := by decide +kernel
theorem dX19_door_43 : decode cX19_door 43 = .ok (.iload_n 2, 1) := by decide +kernel
theorem dX19_door_44 : decode cX19_door 44 = .ok (.aaload, 1) := by decide +kernel
theorem dX19_door_45 : decode cX19_door 45 = .ok (.astore 4, 2) := by decide +kernel
theorem dX19_door_47 : decode cX19_door 47 = .ok (.aload 4, 2) := by decide +kernel
theorem dX19_door_49 : decode cX19_door 49 = .ok (.getfield 350, 3) := by decide +kernel
theorem dX19_door_52 : decode cX19_door 52 = .ok (.ifCond .eq 11, 3) := by decide +kernel
theorem dX19_door_55 : decode cX19_door 55 = .ok (.aload 4, 2) := by decide +kernel
theorem dX19_door_57 : decode cX19_door 57 = .ok (.getfield 344, 3) := by decide +kernel
theorem dX19_door_60 : decode cX19_door 60 = .ok (.goto 4, 3) := by decide +kernel
theorem dX19_door_63 : decode cX19_door 63 = .ok (.aconst_null, 1) := by decide +kernel
theorem dX19_door_64 : decode cX19_door 64 = .ok (.astore 5, 2) := by decide +kernel
theorem dX19_door_66 : decode cX19_door 66 = .ok (.iload_n 3, 1) := by decide +kernel
theorem dX19_door_67 : decode cX19_door 67 = .ok (.tableswitch 168 0 5 #[37, 65, 96, 111, 126, 141], 37) := by decide +kernel
theorem dX19_door_104 : decode cX19_door 104 = .ok (.aload 4, 2) := by decide +kernel
theorem dX19_door_106 : decode cX19_door 106 = .ok (.getfield 747, 3) := by decide +kernel
theorem dX19_door_109 : decode cX19_door 109 = .ok (.ifCond .eq 7, 3) := by decide +kernel
theorem dX19_door_112 : decode cX19_door 112 = .ok (.iconst 1, 1) := by decide +kernel
theorem dX19_door_113 : decode cX19_door 113 = .ok (.goto 18, 3) := by decide +kernel
theorem dX19_door_116 : decode cX19_door 116 = .ok (.aload 5, 2) := by decide +kernel
theorem dX19_door_118 : decode cX19_door 118 = .ok (.ifnonnull 8, 3) := by decide +kernel
theorem dX19_door_121 : decode cX19_door 121 = .ok (.bipush 12, 2) := by decide +kernel
theorem dX19_door_123 : decode cX19_door 123 = .ok (.goto 8, 3) := by decide +kernel
theorem dX19_door_126 : decode cX19_door 126 = .ok (.aload 5, 2) := by decide +kernel
theorem dX19_door_128 : decode cX19_door 128 = .ok (.getfield 353, 3) := by decide +kernel
theorem dX19_door_131 : decode cX19_door 131 = .ok (.ireturn, 1) := by decide +kernel
theorem dX19_door_132 : decode cX19_door 132 = .ok (.aload 4, 2) := by decide +kernel
theorem dX19_door_134 : decode cX19_door 134 = .ok (.getfield 747, 3) := by decide +kernel
theorem dX19_door_137 : decode cX19_door 137 = .ok (.ifCond .eq 11, 3) := by decide +kernel
theorem dX19_door_140 : decode cX19_door 140 = .ok (.aload 4, 2) := by decide +kernel
theorem dX19_door_142 : decode cX19_door 142 = .ok (.getfield 783, 3) := by decide +kernel
theorem dX19_door_145 : decode cX19_door 145 = .ok (.goto 17, 3) := by decide +kernel
theorem dX19_door_148 : decode cX19_door 148 = .ok (.aload 5, 2) := by decide +kernel
theorem dX19_door_150 : decode cX19_door 150 = .ok (.ifnonnull 7, 3) := by decide +kernel
theorem dX19_door_153 : decode cX19_door 153 = .ok (.iconst 0, 1) := by decide +kernel
theorem dX19_door_154 : decode cX19_door 154 = .ok (.goto 8, 3) := by decide +kernel
theorem dX19_door_157 : decode cX19_door 157 = .ok (.aload 5, 2) := by decide +kernel
theorem dX19_door_159 : decode cX19_door 159 = .ok (.getfield 358, 3) := by decide +kernel
theorem dX19_door_162 : decode cX19_door 162 = .ok (.ireturn, 1) := by decide +kernel
theorem dX19_door_163 : decode cX19_door 163 = .ok (.aload 5, 2) := by decide +kernel
theorem dX19_door_165 : decode cX19_door 165 = .ok (.ifnonnull 7, 3) := by decide +kernel
theorem dX19_door_168 : decode cX19_door 168 = .ok (.iconst 0, 1) := by decide +kernel
theorem dX19_door_169 : decode cX19_door 169 = .ok (.goto 8, 3) := by decide +kernel
theorem dX19_door_172 : decode cX19_door 172 = .ok (.aload 5, 2) := by decide +kernel
theorem dX19_door_174 : decode cX19_door 174 = .ok (.getfield 364, 3) := by decide +kernel
theorem dX19_door_177 : decode cX19_door 177 = .ok (.ireturn, 1) := by decide +kernel
theorem dX19_door_178 : decode cX19_door 178 = .ok (.aload 5, 2) := by decide +kernel
theorem dX19_door_180 : decode cX19_door 180 = .ok (.ifnonnull 7, 3) := by decide +kernel
theorem dX19_door_183 : decode cX19_door 183 = .ok (.iconst 0, 1) := by decide +kernel
theorem dX19_door_184 : decode cX19_door 184 = .ok (.goto 8, 3) := by decide +kernel
theorem dX19_door_187 : decode cX19_door 187 = .ok (.aload 5, 2) := by decide +kernel
theorem dX19_door_189 : decode cX19_door 189 = .ok (.getfield 361, 3) := by decide +kernel
theorem dX19_door_192 : decode cX19_door 192 = .ok (.ireturn, 1) := by decide +kernel
theorem dX19_door_193 : decode cX19_door 193 = .ok (.aload 5, 2) := by decide +kernel
theorem dX19_door_195 : decode cX19_door 195 = .ok (.ifnonnull 7, 3) := by decide +kernel
theorem dX19_door_198 : decode cX19_door 198 = .ok (.iconst 0, 1) := by decide +kernel
theorem dX19_door_199 : decode cX19_door 199 = .ok (.goto 8, 3) := by decide +kernel
theorem dX19_door_202 : decode cX19_door 202 = .ok (.aload 5, 2) := by decide +kernel
theorem dX19_door_204 : decode cX19_door 204 = .ok (.invokevirtual 679, 3) := by decide +kernel
theorem dX19_door_207 : decode cX19_door 207 = .ok (.ireturn, 1) := by decide +kernel
theorem dX19_door_208 : decode cX19_door 208 = .ok (.aload 5, 2) := by decide +kernel
theorem dX19_door_210 : decode cX19_door 210 = .ok (.ifnull 11, 3) := by decide +kernel
theorem dX19_door_213 : decode cX19_door 213 = .ok (.aload 5, 2) := by decide +kernel
theorem dX19_door_215 : decode cX19_door 215 = .ok (.invokevirtual 905, 3) := by decide +kernel
theorem dX19_door_218 : decode cX19_door 218 = .ok (.ifCond .ne 7, 3) := by decide +kernel
theorem dX19_door_221 : decode cX19_door 221 = .ok (.iconst 0, 1) := by decide +kernel
theorem dX19_door_222 : decode cX19_door 222 = .ok (.goto 12, 3) := by decide +kernel
theorem dX19_door_225 : decode cX19_door 225 = .ok (.sipush 2048, 3) := by decide +kernel
theorem dX19_door_228 : decode cX19_door 228 = .ok (.aload 5, 2) := by decide +kernel
theorem dX19_door_230 : decode cX19_door 230 = .ok (.invokevirtual 895, 3) := by decide +kernel
theorem dX19_door_233 : decode cX19_door 233 = .ok (.isub, 1) := by decide +kernel
theorem dX19_door_234 : decode cX19_door 234 = .ok (.ireturn, 1) := by decide +kernel
theorem dX19_door_235 : decode cX19_door 235 = .ok (.aload 5, 2) := by decide +kernel
theorem dX19_door_237 : decode cX19_door 237 = .ok (.ifnonnull 7, 3) := by decide +kernel
theorem dX19_door_240 : decode cX19_door 240 = .ok (.iconst 0, 1) := by decide +kernel
theorem dX19_door_241 : decode cX19_door 241 = .ok (.goto 8, 3) := by decide +kernel
theorem dX19_door_244 : decode cX19_door 244 = .ok (.aload 5, 2) := by decide +kernel
theorem dX19_door_246 : decode cX19_door 246 = .ok (.invokevirtual 895, 3) := by decide +kernel
theorem dX19_door_249 : decode cX19_door 249 = .ok (.ireturn, 1) := by decide +kernel
theorem dX19_way_0 : decode cX19_way 0 = .ok (.aload_n 0, 1) := by decide +kernel
theorem dX19_way_1 : decode cX19_way 1 = .ok (.aload_n 0, 1) := by decide +kernel
theorem dX19_way_2 : decode cX19_way 2 = .ok (.iload_n 1, 1) := by decide +kernel
theorem dX19_way_3 : decode cX19_way 3 = .ok (.invokevirtual 875, 3) := by decide +kernel
theorem dX19_way_6 : decode cX19_way 6 = .ok (.ifCond .eq 20, 3) := by decide +kernel
theorem dX19_way_9 : decode cX19_way 9 = .ok (.aload_n 0, 1) := by decide +kernel
theorem dX19_way_10 : decode cX19_way 10 = .ok (.iload_n 2, 1) := by decide +kernel
theorem dX19_way_11 : decode cX19_way 11 = .ok (.invokevirtual 870, 3) := by decide +kernel
theorem dX19_way_14 : decode cX19_way 14 = .ok (.ifCond .eq 12, 3) := by decide +kernel
theorem dX19_way_17 : decode cX19_way 17 = .ok (.iload_n 3, 1) := by decide +kernel
theorem dX19_way_18 : decode cX19_way 18 = .ok (.ifCond .lt 8, 3) := by decide +kernel
theorem dX19_way_21 : decode cX19_way 21 = .ok (.iload_n 3, 1) := by decide +kernel
theorem dX19_way_22 : decode cX19_way 22 = .ok (.iconst 2, 1) := by decide +kernel
theorem dX19_way_23 : decode cX19_way 23 = .ok (.if_icmp .le 7, 3) := by decide +kernel
theorem dX19_way_26 : decode cX19_way 26 = .ok (.iconst 1, 1) := by decide +kernel
theorem dX19_way_27 : decode cX19_way 27 = .ok (.goto 4, 3) := by decide +kernel
theorem dX19_way_30 : decode cX19_way 30 = .ok (.iconst 0, 1) := by decide +kernel
theorem dX19_way_31 : decode cX19_way 31 = .ok (.iconst 0, 1) := by decide +kernel
theorem dX19_way_32 : decode cX19_way 32 = .ok (.invokevirtual 865, 3) := by decide +kernel
theorem dX19_way_35 : decode cX19_way 35 = .ok (.ifCond .eq 5, 3) := by decide +kernel
theorem dX19_way_38 : decode cX19_way 38 = .ok (.iconst 0, 1) := by decide +kernel
theorem dX19_way_39 : decode cX19_way 39 = .ok (.ireturn, 1) := by decide +kernel
theorem dX19_way_40 : decode cX19_way 40 = .ok (.aload_n 0, 1) := by decide +kernel
theorem dX19_way_41 : decode cX19_way 41 = .ok (.getfield 114, 3) := by decide +kernel
theorem dX19_way_44 : decode cX19_way 44 = .ok (.iload_n 1, 1) := by decide +kernel
theorem dX19_way_45 : decode cX19_way 45 = .ok (.aaload, 1) := by decide +kernel
theorem dX19_way_46 : decode cX19_way 46 = .ok (.astore 4, 2) := by decide +kernel
theorem dX19_way_48 : decode cX19_way 48 = .ok (.iload_n 3, 1) := by decide +kernel
theorem dX19_way_49 : decode cX19_way 49 = .ok (.ifCond .ne 13, 3) := by decide +kernel
theorem dX19_way_52 : decode cX19_way 52 = .ok (.aload 4, 2) := by decide +kernel
theorem dX19_way_54 : decode cX19_way 54 = .ok (.getfield 301, 3) := by decide +kernel
theorem dX19_way_57 : decode cX19_way 57 = .ok (.iload_n 2, 1) := by decide +kernel
theorem dX19_way_58 : decode cX19_way 58 = .ok (.iaload, 1) := by decide +kernel
theorem dX19_way_59 : decode cX19_way 59 = .ok (.goto 25, 3) := by decide +kernel
theorem dX19_way_62 : decode cX19_way 62 = .ok (.iload_n 3, 1) := by decide +kernel
theorem dX19_way_63 : decode cX19_way 63 = .ok (.iconst 1, 1) := by decide +kernel
theorem dX19_way_64 : decode cX19_way 64 = .ok (.if_icmp .ne 13, 3) := by decide +kernel
theorem dX19_way_67 : decode cX19_way 67 = .ok (.aload 4, 2) := by decide +kernel
theorem dX19_way_69 : decode cX19_way 69 = .ok (.getfield 307, 3) := by decide +kernel
theorem dX19_way_72 : decode cX19_way 72 = .ok (.iload_n 2, 1) := by decide +kernel
theorem dX19_way_73 : decode cX19_way 73 = .ok (.iaload, 1) := by decide +kernel
theorem dX19_way_74 : decode cX19_way 74 = .ok (.goto 10, 3) := by decide +kernel
theorem dX19_way_77 : decode cX19_way 77 = .ok (.aload 4, 2) := by decide +kernel
theorem dX19_way_79 : decode cX19_way 79 = .ok (.getfield 304, 3) := by decide +kernel
theorem dX19_way_82 : decode cX19_way 82 = .ok (.iload_n 2, 1) := by decide +kernel
theorem dX19_way_83 : decode cX19_way 83 = .ok (.iaload, 1) := by decide +kernel
theorem dX19_way_84 : decode cX19_way 84 = .ok (.ireturn, 1) := by decide +kernel
theorem dX19_friends_0 : decode cX19_friends 0 = .ok (.aload_n 0, 1) := by decide +kernel
theorem dX19_friends_1 : decode cX19_friends 1 = .ok (.aload_n 0, 1) := by decide +kernel
theorem dX19_friends_2 : decode cX19_friends 2 = .ok (.iload_n 1, 1) := by decide +kernel
theorem dX19_friends_3 : decode cX19_friends 3 = .ok (.invokevirtual 875, 3) := by decide +kernel
theorem dX19_friends_6 : decode cX19_friends 6 = .ok (.ifCond .eq 19, 3) := by decide +kernel
theorem dX19_friends_9 : decode cX19_friends 9 = .ok (.aload_n 0, 1) := by decide +kernel
theorem dX19_friends_10 : decode cX19_friends 10 = .ok (.iload_n 2, 1) := by decide +kernel
theorem dX19_friends_11 : decode cX19_friends 11 = .ok (.invokevirtual 875, 3) := by decide +kernel
theorem dX19_friends_14 : decode cX19_friends 14 = .ok (.ifCond .eq 11, 3) := by decide +kernel
theorem dX19_friends_17 : decode cX19_friends 17 = .ok (.aload_n 0, 1) := by decide +kernel
theorem dX19_friends_18 : decode cX19_friends 18 = .ok (.iload_n 3, 1) := by decide +kernel
theorem dX19_friends_19 : decode cX19_friends 19 = .ok (.invokevirtual 870, 3) := by decide +kernel
theorem dX19_friends_22 : decode cX19_friends 22 = .ok (.ifCond .ne 7, 3) := by decide +kernel
theorem dX19_friends_25 : decode cX19_friends 25 = .ok (.iconst 1, 1) := by decide +kernel
theorem dX19_friends_26 : decode cX19_friends 26 = .ok (.goto 4, 3) := by decide +kernel
theorem dX19_friends_29 : decode cX19_friends 29 = .ok (.iconst 0, 1) := by decide +kernel
theorem dX19_friends_30 : decode cX19_friends 30 = .ok (.iconst 0, 1) := by decide +kernel
theorem dX19_friends_31 : decode cX19_friends 31 = .ok (.invokevirtual 865, 3) := by decide +kernel
theorem dX19_friends_34 : decode cX19_friends 34 = .ok (.ifCond .eq 5, 3) := by decide +kernel
theorem dX19_friends_37 : decode cX19_friends 37 = .ok (.iconst 0, 1) := by decide +kernel
theorem dX19_friends_38 : decode cX19_friends 38 = .ok (.ireturn, 1) := by decide +kernel
theorem dX19_friends_39 : decode cX19_friends 39 = .ok (.aload_n 0, 1) := by decide +kernel
theorem dX19_friends_40 : decode cX19_friends 40 = .ok (.iload_n 1, 1) := by decide +kernel
theorem dX19_friends_41 : decode cX19_friends 41 = .ok (.iload_n 3, 1) := by decide +kernel
theorem dX19_friends_42 : decode cX19_friends 42 = .ok (.invokevirtual 877, 3) := by decide +kernel
theorem dX19_friends_45 : decode cX19_friends 45 = .ok (.astore 4, 2) := by decide +kernel
theorem dX19_friends_47 : decode cX19_friends 47 = .ok (.aload 4, 2) := by decide +kernel
theorem dX19_friends_49 : decode cX19_friends 49 = .ok (.ifnull 29, 3) := by decide +kernel
theorem dX19_friends_52 : decode cX19_friends 52 = .ok (.iload_n 1, 1) := by decide +kernel
theorem dX19_friends_53 : decode cX19_friends 53 = .ok (.iload_n 2, 1) := by decide +kernel
theorem dX19_friends_54 : decode cX19_friends 54 = .ok (.if_icmp .eq 24, 3) := by decide +kernel
theorem dX19_friends_57 : decode cX19_friends 57 = .ok (.aload 4, 2) := by decide +kernel
theorem dX19_friends_59 : decode cX19_friends 59 = .ok (.getfield 197, 3) := by decide +kernel
theorem dX19_friends_62 : decode cX19_friends 62 = .ok (.aload 4, 2) := by decide +kernel
theorem dX19_friends_64 : decode cX19_friends 64 = .ok (.getfield 380, 3) := by decide +kernel
theorem dX19_friends_67 : decode cX19_friends 67 = .ok (.iload_n 2, 1) := by decide +kernel
theorem dX19_friends_68 : decode cX19_friends 68 = .ok (.invokestatic 444, 3) := by decide +kernel
theorem dX19_friends_71 : decode cX19_friends 71 = .ok (.ifnull 7, 3) := by decide +kernel
theorem dX19_friends_74 : decode cX19_friends 74 = .ok (.iconst 1, 1) := by decide +kernel
theorem dX19_friends_75 : decode cX19_friends 75 = .ok (.goto 4, 3) := by decide +kernel
theorem dX19_friends_78 : decode cX19_friends 78 = .ok (.iconst 0, 1) := by decide +kernel
theorem dX19_friends_79 : decode cX19_friends 79 = .ok (.ireturn, 1) := by decide +kernel
theorem dX19_advert_0 : decode cX19_advert 0 = .ok (.aload_n 0, 1) := by decide +kernel
theorem dX19_advert_1 : decode cX19_advert 1 = .ok (.aload_n 0, 1) := by decide +kernel
theorem dX19_advert_2 : decode cX19_advert 2 = .ok (.iload_n 1, 1) := by decide +kernel
theorem dX19_advert_3 : decode cX19_advert 3 = .ok (.invokevirtual 875, 3) := by decide +kernel
theorem dX19_advert_6 : decode cX19_advert 6 = .ok (.ifCond .eq 11, 3) := by decide +kernel
theorem dX19_advert_9 : decode cX19_advert 9 = .ok (.aload_n 0, 1) := by decide +kernel
theorem dX19_advert_10 : decode cX19_advert 10 = .ok (.iload_n 2, 1) := by decide +kernel
theorem dX19_advert_11 : decode cX19_advert 11 = .ok (.invokevirtual 875, 3) := by decide +kernel
theorem dX19_advert_14 : decode cX19_advert 14 = .ok (.ifCond .ne 7, 3) := by decide +kernel
theorem dX19_advert_17 : decode cX19_advert 17 = .ok (.iconst 1, 1) := by decide +kernel
theorem dX19_advert_18 : decode cX19_advert 18 = .ok (.goto 4, 3) := by decide +kernel
theorem dX19_advert_21 : decode cX19_advert 21 = .ok (.iconst 0, 1) := by decide +kernel
theorem dX19_advert_22 : decode cX19_advert 22 = .ok (.iconst 0, 1) := by decide +kernel
theorem dX19_advert_23 : decode cX19_advert 23 = .ok (.invokevirtual 865, 3) := by decide +kernel
theorem dX19_advert_26 : decode cX19_advert 26 = .ok (.ifCond .eq 5, 3) := by decide +kernel
theorem dX19_advert_29 : decode cX19_advert 29 = .ok (.iconst 0, 1) := by decide +kernel
theorem dX19_advert_30 : decode cX19_advert 30 = .ok (.ireturn, 1) := by decide +kernel
theorem dX19_advert_31 : decode cX19_advert 31 = .ok (.aload_n 0, 1) := by decide +kernel
theorem dX19_advert_32 : decode cX19_advert 32 = .ok (.getfield 114, 3) := by decide +kernel
theorem dX19_advert_35 : decode cX19_advert 35 = .ok (.iload_n 1, 1) := by decide +kernel
theorem dX19_advert_36 : decode cX19_advert 36 = .ok (.aaload, 1) := by decide +kernel
theorem dX19_advert_37 : decode cX19_advert 37 = .ok (.getfield 448, 3) := by decide +kernel
theorem dX19_advert_40 : decode cX19_advert 40 = .ok (.iload_n 2, 1) := by decide +kernel
theorem dX19_advert_41 : decode cX19_advert 41 = .ok (.iaload, 1) := by decide +kernel
theorem dX19_advert_42 : decode cX19_advert 42 = .ok (.istore_n 3, 1) := by decide +kernel
theorem dX19_advert_43 : decode cX19_advert 43 = .ok (.iload_n 3, 1) := by decide +kernel
theorem dX19_advert_44 : decode cX19_advert 44 = .ok (.iconst (-1), 1) := by decide +kernel
theorem dX19_advert_45 : decode cX19_advert 45 = .ok (.if_icmp .ne 7, 3) := by decide +kernel
theorem dX19_advert_48 : decode cX19_advert 48 = .ok (.iconst (-1), 1) := by decide +kernel
theorem dX19_advert_49 : decode cX19_advert 49 = .ok (.goto 9, 3) := by decide +kernel
theorem dX19_advert_52 : decode cX19_advert 52 = .ok (.aload_n 0, 1) := by decide +kernel
theorem dX19_advert_53 : decode cX19_advert 53 = .ok (.iload_n 3, 1) := by decide +kernel
theorem dX19_advert_54 : decode cX19_advert 54 = .ok (.iconst 1, 1) := by decide +kernel
theorem dX19_advert_55 : decode cX19_advert 55 = .ok (.invokevirtual 74, 3) := by decide +kernel
theorem dX19_advert_58 : decode cX19_advert 58 = .ok (.ireturn, 1) := by decide +kernel
theorem dX19_count_0 : decode cX19_count 0 = .ok (.iload_n 2, 1) := by decide +kernel
theorem dX19_count_1 : decode cX19_count 1 = .ok (.ifCond .lt 16, 3) := by decide +kernel
theorem dX19_count_4 : decode cX19_count 4 = .ok (.iload_n 2, 1) := by decide +kernel
theorem dX19_count_5 : decode cX19_count 5 = .ok (.iconst 2, 1) := by decide +kernel
theorem dX19_count_6 : decode cX19_count 6 = .ok (.if_icmp .ge 11, 3) := by decide +kernel
theorem dX19_count_9 : decode cX19_count 9 = .ok (.aload_n 0, 1) := by decide +kernel
theorem dX19_count_10 : decode cX19_count 10 = .ok (.iload_n 1, 1) := by decide +kernel
theorem dX19_count_11 : decode cX19_count 11 = .ok (.invokevirtual 870, 3) := by decide +kernel
theorem dX19_count_14 : decode cX19_count 14 = .ok (.ifCond .ne 22, 3) := by decide +kernel
theorem dX19_count_17 : decode cX19_count 17 = .ok (.iload_n 2, 1) := by decide +kernel
theorem dX19_count_18 : decode cX19_count 18 = .ok (.iconst 1, 1) := by decide +kernel
theorem dX19_count_19 : decode cX19_count 19 = .ok (.if_icmp .le 21, 3) := by decide +kernel
theorem dX19_count_22 : decode cX19_count 22 = .ok (.iload_n 2, 1) := by decide +kernel
theorem dX19_count_23 : decode cX19_count 23 = .ok (.bipush 8, 2) := by decide +kernel
theorem dX19_count_25 : decode cX19_count 25 = .ok (.if_icmp .ge 15, 3) := by decide +kernel
theorem dX19_count_28 : decode cX19_count 28 = .ok (.aload_n 0, 1) := by decide +kernel
theorem dX19_count_29 : decode cX19_count 29 = .ok (.iload_n 1, 1) := by decide +kernel
theorem dX19_count_30 : decode cX19_count 30 = .ok (.invokevirtual 854, 3) := by decide +kernel
theorem dX19_count_33 : decode cX19_count 33 = .ok (.ifCond .eq 7, 3) := by decide +kernel
theorem dX19_count_36 : decode cX19_count 36 = .ok (.iconst 1, 1) := by decide +kernel
theorem dX19_count_37 : decode cX19_count 37 = .ok (.goto 4, 3) := by decide +kernel
theorem dX19_count_40 : decode cX19_count 40 = .ok (.iconst 0, 1) := by decide +kernel
theorem dX19_count_41 : decode cX19_count 41 = .ok (.istore_n 3, 1) := by decide +kernel
theorem dX19_count_42 : decode cX19_count 42 = .ok (.aload_n 0, 1) := by decide +kernel
theorem dX19_count_43 : decode cX19_count 43 = .ok (.iload_n 3, 1) := by decide +kernel
theorem dX19_count_44 : decode cX19_count 44 = .ok (.ifCond .ne 7, 3) := by decide +kernel
theorem dX19_count_47 : decode cX19_count 47 = .ok (.iconst 1, 1) := by decide +kernel
theorem dX19_count_48 : decode cX19_count 48 = .ok (.goto 4, 3) := by decide +kernel
theorem dX19_count_51 : decode cX19_count 51 = .ok (.iconst 0, 1) := by decide +kernel
theorem dX19_count_52 : decode cX19_count 52 = .ok (.iconst 0, 1) := by decide +kernel
theorem dX19_count_53 : decode cX19_count 53 = .ok (.invokevirtual 865, 3) := by decide +kernel
theorem dX19_count_56 : decode cX19_count 56 = .ok (.ifCond .eq 5, 3) := by decide +kernel
theorem dX19_count_59 : decode cX19_count 59 = .ok (.iconst 0, 1) := by decide +kernel
theorem dX19_count_60 : decode cX19_count 60 = .ok (.ireturn, 1) := by decide +kernel
theorem dX19_count_61 : decode cX19_count 61 = .ok (.iload_n 2, 1) := by decide +kernel
theorem dX19_count_62 : decode cX19_count 62 = .ok (.iconst 2, 1) := by decide +kernel
theorem dX19_count_63 : decode cX19_count 63 = .ok (.if_icmp .ge 29, 3) := by decide +kernel
theorem dX19_count_66 : decode cX19_count 66 = .ok (.iload_n 2, 1) := by decide +kernel
theorem dX19_count_67 : decode cX19_count 67 = .ok (.ifCond .ne 15, 3) := by decide +kernel
theorem dX19_count_70 : decode cX19_count 70 = .ok (.aload_n 0, 1) := by decide +kernel
theorem dX19_count_71 : decode cX19_count 71 = .ok (.getfield 120, 3) := by decide +kernel
theorem dX19_count_74 : decode cX19_count 74 = .ok (.iload_n 1, 1) := by decide +kernel
theorem dX19_count_75 : decode cX19_count 75 = .ok (.aaload, 1) := by decide +kernel
theorem dX19_count_76 : decode cX19_count 76 = .ok (.getfield 155, 3) := by decide +kernel
theorem dX19_count_79 : decode cX19_count 79 = .ok (.goto 12, 3) := by decide +kernel
theorem dX19_count_82 : decode cX19_count 82 = .ok (.aload_n 0, 1) := by decide +kernel
theorem dX19_count_83 : decode cX19_count 83 = .ok (.getfield 120, 3) := by decide +kernel
theorem dX19_count_86 : decode cX19_count 86 = .ok (.iload_n 1, 1) := by decide +kernel
theorem dX19_count_87 : decode cX19_count 87 = .ok (.aaload, 1) := by decide +kernel
theorem dX19_count_88 : decode cX19_count 88 = .ok (.getfield 374, 3) := by decide +kernel
theorem dX19_count_91 : decode cX19_count 91 = .ok (.ireturn, 1) := by decide +kernel
theorem dX19_count_92 : decode cX19_count 92 = .ok (.aload_n 0, 1) := by decide +kernel
theorem dX19_count_93 : decode cX19_count 93 = .ok (.getfield 114, 3) := by decide +kernel
theorem dX19_count_96 : decode cX19_count 96 = .ok (.iload_n 1, 1) := by decide +kernel
theorem dX19_count_97 : decode cX19_count 97 = .ok (.aaload, 1) := by decide +kernel
theorem dX19_count_98 : decode cX19_count 98 = .ok (.astore 4, 2) := by decide +kernel
theorem dX19_count_100 : decode cX19_count 100 = .ok (.iload_n 2, 1) := by decide +kernel
theorem dX19_count_101 : decode cX19_count 101 = .ok (.iconst 2, 1) := by decide +kernel
theorem dX19_count_102 : decode cX19_count 102 = .ok (.if_icmp .ne 11, 3) := by decide +kernel
theorem dX19_count_105 : decode cX19_count 105 = .ok (.aload 4, 2) := by decide +kernel
theorem dX19_count_107 : decode cX19_count 107 = .ok (.getfield 266, 3) := by decide +kernel
theorem dX19_count_110 : decode cX19_count 110 = .ok (.goto 61, 3) := by decide +kernel
theorem dX19_count_113 : decode cX19_count 113 = .ok (.iload_n 2, 1) := by decide +kernel
theorem dX19_count_114 : decode cX19_count 114 = .ok (.iconst 3, 1) := by decide +kernel
theorem dX19_count_115 : decode cX19_count 115 = .ok (.if_icmp .ne 11, 3) := by decide +kernel
theorem dX19_count_118 : decode cX19_count 118 = .ok (.aload 4, 2) := by decide +kernel
theorem dX19_count_120 : decode cX19_count 120 = .ok (.getfield 430, 3) := by decide +kernel
theorem dX19_count_123 : decode cX19_count 123 = .ok (.goto 48, 3) := by decide +kernel
theorem dX19_count_126 : decode cX19_count 126 = .ok (.iload_n 2, 1) := by decide +kernel
theorem dX19_count_127 : decode cX19_count 127 = .ok (.iconst 4, 1) := by decide +kernel
theorem dX19_count_128 : decode cX19_count 128 = .ok (.if_icmp .ne 11, 3) := by decide +kernel
theorem dX19_count_131 : decode cX19_count 131 = .ok (.aload 4, 2) := by decide +kernel
theorem dX19_count_133 : decode cX19_count 133 = .ok (.getfield 315, 3) := by decide +kernel
theorem dX19_count_136 : decode cX19_count 136 = .ok (.goto 35, 3) := by decide +kernel
theorem dX19_count_139 : decode cX19_count 139 = .ok (.iload_n 2, 1) := by decide +kernel
theorem dX19_count_140 : decode cX19_count 140 = .ok (.iconst 5, 1) := by decide +kernel
theorem dX19_count_141 : decode cX19_count 141 = .ok (.if_icmp .ne 11, 3) := by decide +kernel
theorem dX19_count_144 : decode cX19_count 144 = .ok (.aload 4, 2) := by decide +kernel
theorem dX19_count_146 : decode cX19_count 146 = .ok (.getfield 201, 3) := by decide +kernel
theorem dX19_count_149 : decode cX19_count 149 = .ok (.goto 22, 3) := by decide +kernel
theorem dX19_count_152 : decode cX19_count 152 = .ok (.iload_n 2, 1) := by decide +kernel
theorem dX19_count_153 : decode cX19_count 153 = .ok (.bipush 6, 2) := by decide +kernel
theorem dX19_count_155 : decode cX19_count 155 = .ok (.if_icmp .ne 11, 3) := by decide +kernel
theorem dX19_count_158 : decode cX19_count 158 = .ok (.aload 4, 2) := by decide +kernel
theorem dX19_count_160 : decode cX19_count 160 = .ok (.getfield 427, 3) := by decide +kernel
theorem dX19_count_163 : decode cX19_count 163 = .ok (.goto 8, 3) := by decide +kernel
theorem dX19_count_166 : decode cX19_count 166 = .ok (.aload 4, 2) := by decide +kernel
theorem dX19_count_168 : decode cX19_count 168 = .ok (.getfield 322, 3) := by decide +kernel
theorem dX19_count_171 : decode cX19_count 171 = .ok (.ireturn, 1) := by decide +kernel
theorem dX19_underWay_0 : decode cX19_underWay 0 = .ok (.aload_n 0, 1) := by decide +kernel
theorem dX19_underWay_1 : decode cX19_underWay 1 = .ok (.iconst 0, 1) := by decide +kernel
theorem dX19_underWay_2 : decode cX19_underWay 2 = .ok (.putfield 140, 3) := by decide +kernel
theorem dX19_underWay_5 : decode cX19_underWay 5 = .ok (.aload_n 0, 1) := by decide +kernel
theorem dX19_underWay_6 : decode cX19_underWay 6 = .ok (.getfield 171, 3) := by decide +kernel
theorem dX19_underWay_9 : decode cX19_underWay 9 = .ok (.ireturn, 1) := by decide +kernel
theorem dX19_time_0 : decode cX19_time 0 = .ok (.aload_n 0, 1) := by decide +kernel
theorem dX19_time_1 : decode cX19_time 1 = .ok (.iconst 0, 1) := by decide +kernel
theorem dX19_time_2 : decode cX19_time 2 = .ok (.putfield 140, 3) := by decide +kernel
theorem dX19_time_5 : decode cX19_time 5 = .ok (.aload_n 0, 1) := by decide +kernel
theorem dX19_time_6 : decode cX19_time 6 = .ok (.getfield 143, 3) := by decide +kernel
theorem dX19_time_9 : decode cX19_time 9 = .ok (.ireturn, 1) := by decide +kernel
theorem dX19_fromAbove_0 : decode cX19_fromAbove 0 = .ok (.iconst 0, 1) := by decide +kernel
theorem dX19_fromAbove_1 : decode cX19_fromAbove 1 = .ok (.istore_n 2, 1) := by decide +kernel
theorem dX19_fromAbove_2 : decode cX19_fromAbove 2 = .ok (.iload_n 2, 1) := by decide +kernel
theorem dX19_fromAbove_3 : decode cX19_fromAbove 3 = .ok (.bipush 16, 2) := by decide +kernel
theorem dX19_fromAbove_5 : decode cX19_fromAbove 5 = .ok (.if_icmp .ge 27, 3) := by decide +kernel
theorem dX19_fromAbove_8 : decode cX19_fromAbove 8 = .ok (.aload_n 0, 1) := by decide +kernel
theorem dX19_fromAbove_9 : decode cX19_fromAbove 9 = .ok (.getfield 133, 3) := by decide +kernel
theorem dX19_fromAbove_12 : decode cX19_fromAbove 12 = .ok (.iload_n 2, 1) := by decide +kernel
theorem dX19_fromAbove_13 : decode cX19_fromAbove 13 = .ok (.iload_n 2, 1) := by decide +kernel
theorem dX19_fromAbove_14 : decode cX19_fromAbove 14 = .ok (.iload_n 1, 1) := by decide +kernel
theorem dX19_fromAbove_15 : decode cX19_fromAbove 15 = .ok (.if_icmp .ne 7, 3) := by decide +kernel
theorem dX19_fromAbove_18 : decode cX19_fromAbove 18 = .ok (.iconst 0, 1) := by decide +kernel
theorem dX19_fromAbove_19 : decode cX19_fromAbove 19 = .ok (.goto 6, 3) := by decide +kernel
theorem dX19_fromAbove_22 : decode cX19_fromAbove 22 = .ok (.ldc_w 547, 3) := by decide +kernel
theorem dX19_fromAbove_25 : decode cX19_fromAbove 25 = .ok (.iastore, 1) := by decide +kernel
theorem dX19_fromAbove_26 : decode cX19_fromAbove 26 = .ok (.iinc 2 1, 3) := by decide +kernel
theorem dX19_fromAbove_29 : decode cX19_fromAbove 29 = .ok (.goto (-27), 3) := by decide +kernel
theorem dX19_fromAbove_32 : decode cX19_fromAbove 32 = .ok (.iconst 1, 1) := by decide +kernel
theorem dX19_fromAbove_33 : decode cX19_fromAbove 33 = .ok (.istore_n 2, 1) := by decide +kernel
theorem dX19_fromAbove_34 : decode cX19_fromAbove 34 = .ok (.iload_n 2, 1) := by decide +kernel
theorem dX19_fromAbove_35 : decode cX19_fromAbove 35 = .ok (.ifCond .eq 97, 3) := by decide +kernel
theorem dX19_fromAbove_38 : decode cX19_fromAbove 38 = .ok (.iconst 0, 1) := by decide +kernel
theorem dX19_fromAbove_39 : decode cX19_fromAbove 39 = .ok (.istore_n 2, 1) := by decide +kernel
theorem dX19_fromAbove_40 : decode cX19_fromAbove 40 = .ok (.iconst 0, 1) := by decide +kernel
theorem dX19_fromAbove_41 : decode cX19_fromAbove 41 = .ok (.istore_n 3, 1) := by decide +kernel
theorem dX19_fromAbove_42 : decode cX19_fromAbove 42 = .ok (.iload_n 3, 1) := by decide +kernel
theorem dX19_fromAbove_43 : decode cX19_fromAbove 43 = .ok (.aload_n 0, 1) := by decide +kernel
theorem dX19_fromAbove_44 : decode cX19_fromAbove 44 = .ok (.getfield 831, 3) := by decide +kernel
theorem dX19_fromAbove_47 : decode cX19_fromAbove 47 = .ok (.if_icmp .ge 82, 3) := by decide +kernel
theorem dX19_fromAbove_50 : decode cX19_fromAbove 50 = .ok (.iconst 0, 1) := by decide +kernel
theorem dX19_fromAbove_51 : decode cX19_fromAbove 51 = .ok (.istore 4, 2) := by decide +kernel
theorem dX19_fromAbove_53 : decode cX19_fromAbove 53 = .ok (.aload_n 0, 1) := by decide +kernel
theorem dX19_fromAbove_54 : decode cX19_fromAbove 54 = .ok (.iload_n 3, 1) := by decide +kernel
theorem dX19_fromAbove_55 : decode cX19_fromAbove 55 = .ok (.invokevirtual 875, 3) := by decide +kernel
theorem dX19_fromAbove_58 : decode cX19_fromAbove 58 = .ok (.ifCond .eq 65, 3) := by decide +kernel
theorem dX19_fromAbove_61 : decode cX19_fromAbove 61 = .ok (.aload_n 0, 1) := by decide +kernel
theorem dX19_fromAbove_62 : decode cX19_fromAbove 62 = .ok (.getfield 133, 3) := by decide +kernel
theorem dX19_fromAbove_65 : decode cX19_fromAbove 65 = .ok (.iload_n 3, 1) := by decide +kernel
theorem dX19_fromAbove_66 : decode cX19_fromAbove 66 = .ok (.iaload, 1) := by decide +kernel
theorem dX19_fromAbove_67 : decode cX19_fromAbove 67 = .ok (.ldc_w 547, 3) := by decide +kernel
theorem dX19_fromAbove_70 : decode cX19_fromAbove 70 = .ok (.if_icmp .ge 53, 3) := by decide +kernel
theorem dX19_fromAbove_73 : decode cX19_fromAbove 73 = .ok (.iload 4, 2) := by decide +kernel
theorem dX19_fromAbove_75 : decode cX19_fromAbove 75 = .ok (.aload_n 0, 1) := by decide +kernel
theorem dX19_fromAbove_76 : decode cX19_fromAbove 76 = .ok (.getfield 114, 3) := by decide +kernel
theorem dX19_fromAbove_79 : decode cX19_fromAbove 79 = .ok (.iload_n 3, 1) := by decide +kernel
theorem dX19_fromAbove_80 : decode cX19_fromAbove 80 = .ok (.aaload, 1) := by decide +kernel
theorem dX19_fromAbove_81 : decode cX19_fromAbove 81 = .ok (.getfield 273, 3) := by decide +kernel
theorem dX19_fromAbove_84 : decode cX19_fromAbove 84 = .ok (.if_icmp .ge 39, 3) := by decide +kernel
theorem dX19_fromAbove_87 : decode cX19_fromAbove 87 = .ok (.aload_n 0, 1) := by decide +kernel
theorem dX19_fromAbove_88 : decode cX19_fromAbove 88 = .ok (.iload_n 3, 1) := by decide +kernel
theorem dX19_fromAbove_89 : decode cX19_fromAbove 89 = .ok (.aload_n 0, 1) := by decide +kernel
theorem dX19_fromAbove_90 : decode cX19_fromAbove 90 = .ok (.getfield 114, 3) := by decide +kernel
theorem dX19_fromAbove_93 : decode cX19_fromAbove 93 = .ok (.iload_n 3, 1) := by decide +kernel
theorem dX19_fromAbove_94 : decode cX19_fromAbove 94 = .ok (.aaload, 1) := by decide +kernel
theorem dX19_fromAbove_95 : decode cX19_fromAbove 95 = .ok (.getfield 276, 3) := by decide +kernel
theorem dX19_fromAbove_98 : decode cX19_fromAbove 98 = .ok (.iload 4, 2) := by decide +kernel
theorem dX19_fromAbove_100 : decode cX19_fromAbove 100 = .ok (.aaload, 1) := by decide +kernel
theorem dX19_fromAbove_101 : decode cX19_fromAbove 101 = .ok (.invokevirtual 921, 3) := by decide +kernel
theorem dX19_fromAbove_104 : decode cX19_fromAbove 104 = .ok (.ifCond .ne 7, 3) := by decide +kernel
theorem dX19_fromAbove_107 : decode cX19_fromAbove 107 = .ok (.iload_n 2, 1) := by decide +kernel
theorem dX19_fromAbove_108 : decode cX19_fromAbove 108 = .ok (.ifCond .eq 7, 3) := by decide +kernel
theorem dX19_fromAbove_111 : decode cX19_fromAbove 111 = .ok (.iconst 1, 1) := by decide +kernel
theorem dX19_fromAbove_112 : decode cX19_fromAbove 112 = .ok (.goto 4, 3) := by decide +kernel
theorem dX19_fromAbove_115 : decode cX19_fromAbove 115 = .ok (.iconst 0, 1) := by decide +kernel
theorem dX19_fromAbove_116 : decode cX19_fromAbove 116 = .ok (.istore_n 2, 1) := by decide +kernel
theorem dX19_fromAbove_117 : decode cX19_fromAbove 117 = .ok (.iinc 4 1, 3) := by decide +kernel
theorem dX19_fromAbove_120 : decode cX19_fromAbove 120 = .ok (.goto (-67), 3) := by decide +kernel
theorem dX19_fromAbove_123 : decode cX19_fromAbove 123 = .ok (.iinc 3 1, 3) := by decide +kernel
theorem dX19_fromAbove_126 : decode cX19_fromAbove 126 = .ok (.goto (-84), 3) := by decide +kernel
theorem dX19_fromAbove_129 : decode cX19_fromAbove 129 = .ok (.goto (-95), 3) := by decide +kernel
theorem dX19_fromAbove_132 : decode cX19_fromAbove 132 = .ok (.return_, 1) := by decide +kernel
theorem dX19_goOn_0 : decode cX19_goOn 0 = .ok (.iconst 0, 1) := by decide +kernel
theorem dX19_goOn_1 : decode cX19_goOn 1 = .ok (.istore_n 3, 1) := by decide +kernel
theorem dX19_goOn_2 : decode cX19_goOn 2 = .ok (.iconst 0, 1) := by decide +kernel
theorem dX19_goOn_3 : decode cX19_goOn 3 = .ok (.istore 4, 2) := by decide +kernel
theorem dX19_goOn_5 : decode cX19_goOn 5 = .ok (.aload_n 2, 1) := by decide +kernel
theorem dX19_goOn_6 : decode cX19_goOn 6 = .ok (.getfield 149, 3) := by decide +kernel
theorem dX19_goOn_9 : decode cX19_goOn 9 = .ok (.getfield 158, 3) := by decide +kernel
theorem dX19_goOn_12 : decode cX19_goOn 12 = .ok (.ifCond .eq 91, 3) := by decide +kernel
theorem dX19_goOn_15 : decode cX19_goOn 15 = .ok (.iload 4, 2) := by decide +kernel
theorem dX19_goOn_17 : decode cX19_goOn 17 = .ok (.aload_n 2, 1) := by decide +kernel
theorem dX19_goOn_18 : decode cX19_goOn 18 = .ok (.getfield 149, 3) := by decide +kernel
theorem dX19_goOn_21 : decode cX19_goOn 21 = .ok (.getfield 292, 3) := by decide +kernel
theorem dX19_goOn_24 : decode cX19_goOn 24 = .ok (.if_icmp .ge 79, 3) := by decide +kernel
theorem dX19_goOn_27 : decode cX19_goOn 27 = .ok (.aload_n 2, 1) := by decide +kernel
theorem dX19_goOn_28 : decode cX19_goOn 28 = .ok (.getfield 149, 3) := by decide +kernel
theorem dX19_goOn_31 : decode cX19_goOn 31 = .ok (.getfield 295, 3) := by decide +kernel
theorem dX19_goOn_34 : decode cX19_goOn 34 = .ok (.iload 4, 2) := by decide +kernel
theorem dX19_goOn_36 : decode cX19_goOn 36 = .ok (.aaload, 1) := by decide +kernel
theorem dX19_goOn_37 : decode cX19_goOn 37 = .ok (.getfield 197, 3) := by decide +kernel
theorem dX19_goOn_40 : decode cX19_goOn 40 = .ok (.astore 5, 2) := by decide +kernel
theorem dX19_goOn_42 : decode cX19_goOn 42 = .ok (.aload 5, 2) := by decide +kernel
theorem dX19_goOn_44 : decode cX19_goOn 44 = .ok (.getfield 298, 3) := by decide +kernel
theorem dX19_goOn_47 : decode cX19_goOn 47 = .ok (.ifCond .eq 50, 3) := by decide +kernel
theorem dX19_goOn_50 : decode cX19_goOn 50 = .ok (.aload_n 0, 1) := by decide +kernel
theorem dX19_goOn_51 : decode cX19_goOn 51 = .ok (.getfield 133, 3) := by decide +kernel
theorem dX19_goOn_54 : decode cX19_goOn 54 = .ok (.iload_n 1, 1) := by decide +kernel
theorem dX19_goOn_55 : decode cX19_goOn 55 = .ok (.iaload, 1) := by decide +kernel
theorem dX19_goOn_56 : decode cX19_goOn 56 = .ok (.aload_n 2, 1) := by decide +kernel
theorem dX19_goOn_57 : decode cX19_goOn 57 = .ok (.getfield 520, 3) := by decide +kernel
theorem dX19_goOn_60 : decode cX19_goOn 60 = .ok (.iadd, 1) := by decide +kernel
theorem dX19_goOn_61 : decode cX19_goOn 61 = .ok (.aload_n 0, 1) := by decide +kernel
theorem dX19_goOn_62 : decode cX19_goOn 62 = .ok (.getfield 133, 3) := by decide +kernel
theorem dX19_goOn_65 : decode cX19_goOn 65 = .ok (.aload 5, 2) := by decide +kernel
theorem dX19_goOn_67 : decode cX19_goOn 67 = .ok (.getfield 310, 3) := by decide +kernel
theorem dX19_goOn_70 : decode cX19_goOn 70 = .ok (.iaload, 1) := by decide +kernel
theorem dX19_goOn_71 : decode cX19_goOn 71 = .ok (.if_icmp .ge 26, 3) := by decide +kernel
theorem dX19_goOn_74 : decode cX19_goOn 74 = .ok (.aload_n 0, 1) := by decide +kernel
theorem dX19_goOn_75 : decode cX19_goOn 75 = .ok (.getfield 133, 3) := by decide +kernel
theorem dX19_goOn_78 : decode cX19_goOn 78 = .ok (.aload 5, 2) := by decide +kernel
theorem dX19_goOn_80 : decode cX19_goOn 80 = .ok (.getfield 310, 3) := by decide +kernel
theorem dX19_goOn_83 : decode cX19_goOn 83 = .ok (.aload_n 0, 1) := by decide +kernel
theorem dX19_goOn_84 : decode cX19_goOn 84 = .ok (.getfield 133, 3) := by decide +kernel
theorem dX19_goOn_87 : decode cX19_goOn 87 = .ok (.iload_n 1, 1) := by decide +kernel
theorem dX19_goOn_88 : decode cX19_goOn 88 = .ok (.iaload, 1) := by decide +kernel
theorem dX19_goOn_89 : decode cX19_goOn 89 = .ok (.aload_n 2, 1) := by decide +kernel
theorem dX19_goOn_90 : decode cX19_goOn 90 = .ok (.getfield 520, 3) := by decide +kernel
theorem dX19_goOn_93 : decode cX19_goOn 93 = .ok (.iadd, 1) := by decide +kernel
theorem dX19_goOn_94 : decode cX19_goOn 94 = .ok (.iastore, 1) := by decide +kernel
theorem dX19_goOn_95 : decode cX19_goOn 95 = .ok (.iconst 1, 1) := by decide +kernel
theorem dX19_goOn_96 : decode cX19_goOn 96 = .ok (.istore_n 3, 1) := by decide +kernel
theorem dX19_goOn_97 : decode cX19_goOn 97 = .ok (.iinc 4 1, 3) := by decide +kernel
theorem dX19_goOn_100 : decode cX19_goOn 100 = .ok (.goto (-95), 3) := by decide +kernel
theorem dX19_goOn_103 : decode cX19_goOn 103 = .ok (.iload_n 3, 1) := by decide +kernel
theorem dX19_goOn_104 : decode cX19_goOn 104 = .ok (.ireturn, 1) := by decide +kernel
theorem dX19_costAbove_0 : decode cX19_costAbove 0 = .ok (.aload_n 0, 1) := by decide +kernel
theorem dX19_costAbove_1 : decode cX19_costAbove 1 = .ok (.getfield 120, 3) := by decide +kernel
theorem dX19_costAbove_4 : decode cX19_costAbove 4 = .ok (.iload_n 2, 1) := by decide +kernel
theorem dX19_costAbove_5 : decode cX19_costAbove 5 = .ok (.aaload, 1) := by decide +kernel
theorem dX19_costAbove_6 : decode cX19_costAbove 6 = .ok (.getfield 158, 3) := by decide +kernel
theorem dX19_costAbove_9 : decode cX19_costAbove 9 = .ok (.ifCond .ne 5, 3) := by decide +kernel
theorem dX19_costAbove_12 : decode cX19_costAbove 12 = .ok (.iconst (-1), 1) := by decide +kernel
theorem dX19_costAbove_13 : decode cX19_costAbove 13 = .ok (.ireturn, 1) := by decide +kernel
theorem dX19_costAbove_14 : decode cX19_costAbove 14 = .ok (.aload_n 0, 1) := by decide +kernel
theorem dX19_costAbove_15 : decode cX19_costAbove 15 = .ok (.iload_n 1, 1) := by decide +kernel
theorem dX19_costAbove_16 : decode cX19_costAbove 16 = .ok (.iload_n 2, 1) := by decide +kernel
theorem dX19_costAbove_17 : decode cX19_costAbove 17 = .ok (.invokevirtual 877, 3) := by decide +kernel
theorem dX19_costAbove_20 : decode cX19_costAbove 20 = .ok (.astore_n 3, 1) := by decide +kernel
theorem dX19_costAbove_21 : decode cX19_costAbove 21 = .ok (.aload_n 3, 1) := by decide +kernel
theorem dX19_costAbove_22 : decode cX19_costAbove 22 = .ok (.ifnull 8, 3) := by decide +kernel
theorem dX19_costAbove_25 : decode cX19_costAbove 25 = .ok (.aload_n 3, 1) := by decide +kernel
theorem dX19_costAbove_26 : decode cX19_costAbove 26 = .ok (.getfield 520, 3) := by decide +kernel
theorem dX19_costAbove_29 : decode cX19_costAbove 29 = .ok (.ireturn, 1) := by decide +kernel
theorem dX19_costAbove_30 : decode cX19_costAbove 30 = .ok (.ldc_w 547, 3) := by decide +kernel
theorem dX19_costAbove_33 : decode cX19_costAbove 33 = .ok (.istore 4, 2) := by decide +kernel
theorem dX19_costAbove_35 : decode cX19_costAbove 35 = .ok (.iconst 0, 1) := by decide +kernel
theorem dX19_costAbove_36 : decode cX19_costAbove 36 = .ok (.istore 5, 2) := by decide +kernel
theorem dX19_costAbove_38 : decode cX19_costAbove 38 = .ok (.iload 5, 2) := by decide +kernel
theorem dX19_costAbove_40 : decode cX19_costAbove 40 = .ok (.aload_n 0, 1) := by decide +kernel
theorem dX19_costAbove_41 : decode cX19_costAbove 41 = .ok (.getfield 831, 3) := by decide +kernel
theorem dX19_costAbove_44 : decode cX19_costAbove 44 = .ok (.if_icmp .ge 82, 3) := by decide +kernel
theorem dX19_costAbove_47 : decode cX19_costAbove 47 = .ok (.aload_n 0, 1) := by decide +kernel
theorem dX19_costAbove_48 : decode cX19_costAbove 48 = .ok (.iload 5, 2) := by decide +kernel
theorem dX19_costAbove_50 : decode cX19_costAbove 50 = .ok (.invokevirtual 875, 3) := by decide +kernel
theorem dX19_costAbove_53 : decode cX19_costAbove 53 = .ok (.ifCond .eq 13, 3) := by decide +kernel
theorem dX19_costAbove_56 : decode cX19_costAbove 56 = .ok (.aload_n 0, 1) := by decide +kernel
theorem dX19_costAbove_57 : decode cX19_costAbove 57 = .ok (.iload 5, 2) := by decide +kernel
theorem dX19_costAbove_59 : decode cX19_costAbove 59 = .ok (.iload_n 2, 1) := by decide +kernel
theorem dX19_costAbove_60 : decode cX19_costAbove 60 = .ok (.invokevirtual 877, 3) := by decide +kernel
theorem dX19_costAbove_63 : decode cX19_costAbove 63 = .ok (.goto 4, 3) := by decide +kernel
theorem dX19_costAbove_66 : decode cX19_costAbove 66 = .ok (.aconst_null, 1) := by decide +kernel
theorem dX19_costAbove_67 : decode cX19_costAbove 67 = .ok (.astore 6, 2) := by decide +kernel
theorem dX19_costAbove_69 : decode cX19_costAbove 69 = .ok (.aload 6, 2) := by decide +kernel
theorem dX19_costAbove_71 : decode cX19_costAbove 71 = .ok (.ifnull 49, 3) := by decide +kernel
theorem dX19_costAbove_74 : decode cX19_costAbove 74 = .ok (.aload_n 0, 1) := by decide +kernel
theorem dX19_costAbove_75 : decode cX19_costAbove 75 = .ok (.getfield 133, 3) := by decide +kernel
theorem dX19_costAbove_78 : decode cX19_costAbove 78 = .ok (.iload 5, 2) := by decide +kernel
theorem dX19_costAbove_80 : decode cX19_costAbove 80 = .ok (.iaload, 1) := by decide +kernel
theorem dX19_costAbove_81 : decode cX19_costAbove 81 = .ok (.ldc_w 547, 3) := by decide +kernel
theorem dX19_costAbove_84 : decode cX19_costAbove 84 = .ok (.if_icmp .ge 36, 3) := by decide +kernel
theorem dX19_costAbove_87 : decode cX19_costAbove 87 = .ok (.aload_n 0, 1) := by decide +kernel
theorem dX19_costAbove_88 : decode cX19_costAbove 88 = .ok (.getfield 133, 3) := by decide +kernel
theorem dX19_costAbove_91 : decode cX19_costAbove 91 = .ok (.iload 5, 2) := by decide +kernel
theorem dX19_costAbove_93 : decode cX19_costAbove 93 = .ok (.iaload, 1) := by decide +kernel
theorem dX19_costAbove_94 : decode cX19_costAbove 94 = .ok (.aload 6, 2) := by decide +kernel
theorem dX19_costAbove_96 : decode cX19_costAbove 96 = .ok (.getfield 520, 3) := by decide +kernel
theorem dX19_costAbove_99 : decode cX19_costAbove 99 = .ok (.iadd, 1) := by decide +kernel
theorem dX19_costAbove_100 : decode cX19_costAbove 100 = .ok (.iload 4, 2) := by decide +kernel
theorem dX19_costAbove_102 : decode cX19_costAbove 102 = .ok (.if_icmp .ge 18, 3) := by decide +kernel
theorem dX19_costAbove_105 : decode cX19_costAbove 105 = .ok (.aload_n 0, 1) := by decide +kernel
theorem dX19_costAbove_106 : decode cX19_costAbove 106 = .ok (.getfield 133, 3) := by decide +kernel
theorem dX19_costAbove_109 : decode cX19_costAbove 109 = .ok (.iload 5, 2) := by decide +kernel
theorem dX19_costAbove_111 : decode cX19_costAbove 111 = .ok (.iaload, 1) := by decide +kernel
theorem dX19_costAbove_112 : decode cX19_costAbove 112 = .ok (.aload 6, 2) := by decide +kernel
theorem dX19_costAbove_114 : decode cX19_costAbove 114 = .ok (.getfield 520, 3) := by decide +kernel
theorem dX19_costAbove_117 : decode cX19_costAbove 117 = .ok (.iadd, 1) := by decide +kernel
theorem dX19_costAbove_118 : decode cX19_costAbove 118 = .ok (.istore 4, 2) := by decide +kernel
theorem dX19_costAbove_120 : decode cX19_costAbove 120 = .ok (.iinc 5 1, 3) := by decide +kernel
theorem dX19_costAbove_123 : decode cX19_costAbove 123 = .ok (.goto (-85), 3) := by decide +kernel
theorem dX19_costAbove_126 : decode cX19_costAbove 126 = .ok (.iload 4, 2) := by decide +kernel
theorem dX19_costAbove_128 : decode cX19_costAbove 128 = .ok (.ldc_w 547, 3) := by decide +kernel
theorem dX19_costAbove_131 : decode cX19_costAbove 131 = .ok (.if_icmp .ne 7, 3) := by decide +kernel
theorem dX19_costAbove_134 : decode cX19_costAbove 134 = .ok (.iconst (-1), 1) := by decide +kernel
theorem dX19_costAbove_135 : decode cX19_costAbove 135 = .ok (.goto 5, 3) := by decide +kernel
theorem dX19_costAbove_138 : decode cX19_costAbove 138 = .ok (.iload 4, 2) := by decide +kernel
theorem dX19_costAbove_140 : decode cX19_costAbove 140 = .ok (.ireturn, 1) := by decide +kernel
theorem dX19_shouldCost_0 : decode cX19_shouldCost 0 = .ok (.aload_n 0, 1) := by decide +kernel
theorem dX19_shouldCost_1 : decode cX19_shouldCost 1 = .ok (.aload_n 0, 1) := by decide +kernel
theorem dX19_shouldCost_2 : decode cX19_shouldCost 2 = .ok (.iload_n 1, 1) := by decide +kernel
theorem dX19_shouldCost_3 : decode cX19_shouldCost 3 = .ok (.invokevirtual 875, 3) := by decide +kernel
theorem dX19_shouldCost_6 : decode cX19_shouldCost 6 = .ok (.ifCond .eq 11, 3) := by decide +kernel
theorem dX19_shouldCost_9 : decode cX19_shouldCost 9 = .ok (.aload_n 0, 1) := by decide +kernel
theorem dX19_shouldCost_10 : decode cX19_shouldCost 10 = .ok (.iload_n 2, 1) := by decide +kernel
theorem dX19_shouldCost_11 : decode cX19_shouldCost 11 = .ok (.invokevirtual 870, 3) := by decide +kernel
theorem dX19_shouldCost_14 : decode cX19_shouldCost 14 = .ok (.ifCond .ne 7, 3) := by decide +kernel
theorem dX19_shouldCost_17 : decode cX19_shouldCost 17 = .ok (.iconst 1, 1) := by decide +kernel
theorem dX19_shouldCost_18 : decode cX19_shouldCost 18 = .ok (.goto 4, 3) := by decide +kernel
theorem dX19_shouldCost_21 : decode cX19_shouldCost 21 = .ok (.iconst 0, 1) := by decide +kernel
theorem dX19_shouldCost_22 : decode cX19_shouldCost 22 = .ok (.iconst 0, 1) := by decide +kernel
theorem dX19_shouldCost_23 : decode cX19_shouldCost 23 = .ok (.invokevirtual 865, 3) := by decide +kernel
theorem dX19_shouldCost_26 : decode cX19_shouldCost 26 = .ok (.ifCond .eq 5, 3) := by decide +kernel
theorem dX19_shouldCost_29 : decode cX19_shouldCost 29 = .ok (.iconst 0, 1) := by decide +kernel
theorem dX19_shouldCost_30 : decode cX19_shouldCost 30 = .ok (.ireturn, 1) := by decide +kernel
theorem dX19_shouldCost_31 : decode cX19_shouldCost 31 = .ok (.aload_n 0, 1) := by decide +kernel
theorem dX19_shouldCost_32 : decode cX19_shouldCost 32 = .ok (.iload_n 1, 1) := by decide +kernel
theorem dX19_shouldCost_33 : decode cX19_shouldCost 33 = .ok (.invokevirtual 925, 3) := by decide +kernel
theorem dX19_shouldCost_36 : decode cX19_shouldCost 36 = .ok (.aload_n 0, 1) := by decide +kernel
theorem dX19_shouldCost_37 : decode cX19_shouldCost 37 = .ok (.iload_n 1, 1) := by decide +kernel
theorem dX19_shouldCost_38 : decode cX19_shouldCost 38 = .ok (.iload_n 2, 1) := by decide +kernel
theorem dX19_shouldCost_39 : decode cX19_shouldCost 39 = .ok (.invokevirtual 928, 3) := by decide +kernel
theorem dX19_shouldCost_42 : decode cX19_shouldCost 42 = .ok (.ireturn, 1) := by decide +kernel
theorem dX19_boundNow_0 : decode cX19_boundNow 0 = .ok (.iconst 1, 1) := by decide +kernel
theorem dX19_boundNow_1 : decode cX19_boundNow 1 = .ok (.istore_n 1, 1) := by decide +kernel
theorem dX19_boundNow_2 : decode cX19_boundNow 2 = .ok (.iconst 0, 1) := by decide +kernel
theorem dX19_boundNow_3 : decode cX19_boundNow 3 = .ok (.istore_n 2, 1) := by decide +kernel
theorem dX19_boundNow_4 : decode cX19_boundNow 4 = .ok (.iload_n 2, 1) := by decide +kernel
theorem dX19_boundNow_5 : decode cX19_boundNow 5 = .ok (.aload_n 0, 1) := by decide +kernel
theorem dX19_boundNow_6 : decode cX19_boundNow 6 = .ok (.getfield 270, 3) := by decide +kernel
theorem dX19_boundNow_9 : decode cX19_boundNow 9 = .ok (.if_icmp .ge 36, 3) := by decide +kernel
theorem dX19_boundNow_12 : decode cX19_boundNow 12 = .ok (.aload_n 0, 1) := by decide +kernel
theorem dX19_boundNow_13 : decode cX19_boundNow 13 = .ok (.getfield 120, 3) := by decide +kernel
theorem dX19_boundNow_16 : decode cX19_boundNow 16 = .ok (.iload_n 2, 1) := by decide +kernel
theorem dX19_boundNow_17 : decode cX19_boundNow 17 = .ok (.aaload, 1) := by decide +kernel
theorem dX19_boundNow_18 : decode cX19_boundNow 18 = .ok (.getfield 174, 3) := by decide +kernel
theorem dX19_boundNow_21 : decode cX19_boundNow 21 = .ok (.iload_n 1, 1) := by decide +kernel
theorem dX19_boundNow_22 : decode cX19_boundNow 22 = .ok (.if_icmp .le 15, 3) := by decide +kernel
theorem dX19_boundNow_25 : decode cX19_boundNow 25 = .ok (.aload_n 0, 1) := by decide +kernel
theorem dX19_boundNow_26 : decode cX19_boundNow 26 = .ok (.getfield 120, 3) := by decide +kernel
theorem dX19_boundNow_29 : decode cX19_boundNow 29 = .ok (.iload_n 2, 1) := by decide +kernel
theorem dX19_boundNow_30 : decode cX19_boundNow 30 = .ok (.aaload, 1) := by decide +kernel
theorem dX19_boundNow_31 : decode cX19_boundNow 31 = .ok (.getfield 174, 3) := by decide +kernel
theorem dX19_boundNow_34 : decode cX19_boundNow 34 = .ok (.goto 4, 3) := by decide +kernel
theorem dX19_boundNow_37 : decode cX19_boundNow 37 = .ok (.iload_n 1, 1) := by decide +kernel
theorem dX19_boundNow_38 : decode cX19_boundNow 38 = .ok (.istore_n 1, 1) := by decide +kernel
theorem dX19_boundNow_39 : decode cX19_boundNow 39 = .ok (.iinc 2 1, 3) := by decide +kernel
theorem dX19_boundNow_42 : decode cX19_boundNow 42 = .ok (.goto (-38), 3) := by decide +kernel
theorem dX19_boundNow_45 : decode cX19_boundNow 45 = .ok (.bipush 100, 2) := by decide +kernel
theorem dX19_boundNow_47 : decode cX19_boundNow 47 = .ok (.iconst 4, 1) := by decide +kernel
theorem dX19_boundNow_48 : decode cX19_boundNow 48 = .ok (.iload_n 1, 1) := by decide +kernel
theorem dX19_boundNow_49 : decode cX19_boundNow 49 = .ok (.imul, 1) := by decide +kernel
theorem dX19_boundNow_50 : decode cX19_boundNow 50 = .ok (.iadd, 1) := by decide +kernel
theorem dX19_boundNow_51 : decode cX19_boundNow 51 = .ok (.iconst 2, 1) := by decide +kernel
theorem dX19_boundNow_52 : decode cX19_boundNow 52 = .ok (.bipush 11, 2) := by decide +kernel
theorem dX19_boundNow_54 : decode cX19_boundNow 54 = .ok (.aload_n 0, 1) := by decide +kernel
theorem dX19_boundNow_55 : decode cX19_boundNow 55 = .ok (.getfield 831, 3) := by decide +kernel
theorem dX19_boundNow_58 : decode cX19_boundNow 58 = .ok (.bipush 17, 2) := by decide +kernel
theorem dX19_boundNow_60 : decode cX19_boundNow 60 = .ok (.iconst 3, 1) := by decide +kernel
theorem dX19_boundNow_61 : decode cX19_boundNow 61 = .ok (.iload_n 1, 1) := by decide +kernel
theorem dX19_boundNow_62 : decode cX19_boundNow 62 = .ok (.imul, 1) := by decide +kernel
theorem dX19_boundNow_63 : decode cX19_boundNow 63 = .ok (.iadd, 1) := by decide +kernel
theorem dX19_boundNow_64 : decode cX19_boundNow 64 = .ok (.imul, 1) := by decide +kernel
theorem dX19_boundNow_65 : decode cX19_boundNow 65 = .ok (.iadd, 1) := by decide +kernel
theorem dX19_boundNow_66 : decode cX19_boundNow 66 = .ok (.imul, 1) := by decide +kernel
theorem dX19_boundNow_67 : decode cX19_boundNow 67 = .ok (.iadd, 1) := by decide +kernel
theorem dX19_boundNow_68 : decode cX19_boundNow 68 = .ok (.bipush 40, 2) := by decide +kernel
theorem dX19_boundNow_70 : decode cX19_boundNow 70 = .ok (.sipush 1200, 3) := by decide +kernel
theorem dX19_boundNow_73 : decode cX19_boundNow 73 = .ok (.bipush 6, 2) := by decide +kernel
theorem dX19_boundNow_75 : decode cX19_boundNow 75 = .ok (.aload_n 0, 1) := by decide +kernel
theorem dX19_boundNow_76 : decode cX19_boundNow 76 = .ok (.getfield 831, 3) := by decide +kernel
theorem dX19_boundNow_79 : decode cX19_boundNow 79 = .ok (.iconst 2, 1) := by decide +kernel
theorem dX19_boundNow_80 : decode cX19_boundNow 80 = .ok (.iadd, 1) := by decide +kernel
theorem dX19_boundNow_81 : decode cX19_boundNow 81 = .ok (.imul, 1) := by decide +kernel
theorem dX19_boundNow_82 : decode cX19_boundNow 82 = .ok (.iload_n 1, 1) := by decide +kernel
theorem dX19_boundNow_83 : decode cX19_boundNow 83 = .ok (.imul, 1) := by decide +kernel
theorem dX19_boundNow_84 : decode cX19_boundNow 84 = .ok (.iadd, 1) := by decide +kernel
theorem dX19_boundNow_85 : decode cX19_boundNow 85 = .ok (.imul, 1) := by decide +kernel
theorem dX19_boundNow_86 : decode cX19_boundNow 86 = .ok (.iadd, 1) := by decide +kernel
theorem dX19_boundNow_87 : decode cX19_boundNow 87 = .ok (.ireturn, 1) := by decide +kernel
theorem dX19_bound_0 : decode cX19_bound 0 = .ok (.aload_n 0, 1) := by decide +kernel
theorem dX19_bound_1 : decode cX19_bound 1 = .ok (.iconst 0, 1) := by decide +kernel
theorem dX19_bound_2 : decode cX19_bound 2 = .ok (.putfield 140, 3) := by decide +kernel
theorem dX19_bound_5 : decode cX19_bound 5 = .ok (.aload_n 0, 1) := by decide +kernel
theorem dX19_bound_6 : decode cX19_bound 6 = .ok (.invokevirtual 931, 3) := by decide +kernel
theorem dX19_bound_9 : decode cX19_bound 9 = .ok (.ireturn, 1) := by decide +kernel
theorem dX19_drain_0 : decode cX19_drain 0 = .ok (.aload_n 0, 1) := by decide +kernel
theorem dX19_drain_1 : decode cX19_drain 1 = .ok (.aload_n 0, 1) := by decide +kernel
theorem dX19_drain_2 : decode cX19_drain 2 = .ok (.iload_n 1, 1) := by decide +kernel
theorem dX19_drain_3 : decode cX19_drain 3 = .ok (.iload_n 2, 1) := by decide +kernel
theorem dX19_drain_4 : decode cX19_drain 4 = .ok (.invokevirtual 892, 3) := by decide +kernel
theorem dX19_drain_7 : decode cX19_drain 7 = .ok (.ifCond .ne 7, 3) := by decide +kernel
theorem dX19_drain_10 : decode cX19_drain 10 = .ok (.iconst 1, 1) := by decide +kernel
theorem dX19_drain_11 : decode cX19_drain 11 = .ok (.goto 4, 3) := by decide +kernel
theorem dX19_drain_14 : decode cX19_drain 14 = .ok (.iconst 0, 1) := by decide +kernel
theorem dX19_drain_15 : decode cX19_drain 15 = .ok (.aload_n 0, 1) := by decide +kernel
theorem dX19_drain_16 : decode cX19_drain 16 = .ok (.iload_n 1, 1) := by decide +kernel
theorem dX19_drain_17 : decode cX19_drain 17 = .ok (.iload_n 2, 1) := by decide +kernel
theorem dX19_drain_18 : decode cX19_drain 18 = .ok (.invokevirtual 901, 3) := by decide +kernel
theorem dX19_drain_21 : decode cX19_drain 21 = .ok (.ifnonnull 7, 3) := by decide +kernel
theorem dX19_drain_24 : decode cX19_drain 24 = .ok (.iconst 1, 1) := by decide +kernel
theorem dX19_drain_25 : decode cX19_drain 25 = .ok (.goto 4, 3) := by decide +kernel
theorem dX19_drain_28 : decode cX19_drain 28 = .ok (.iconst 0, 1) := by decide +kernel
theorem dX19_drain_29 : decode cX19_drain 29 = .ok (.invokevirtual 865, 3) := by decide +kernel
theorem dX19_drain_32 : decode cX19_drain 32 = .ok (.ifCond .ne 18, 3) := by decide +kernel
theorem dX19_drain_35 : decode cX19_drain 35 = .ok (.aload_n 0, 1) := by decide +kernel
theorem dX19_drain_36 : decode cX19_drain 36 = .ok (.getfield 114, 3) := by decide +kernel
theorem dX19_drain_39 : decode cX19_drain 39 = .ok (.iload_n 1, 1) := by decide +kernel
theorem dX19_drain_40 : decode cX19_drain 40 = .ok (.aaload, 1) := by decide +kernel
theorem dX19_drain_41 : decode cX19_drain 41 = .ok (.getfield 340, 3) := by decide +kernel
theorem dX19_drain_44 : decode cX19_drain 44 = .ok (.iload_n 2, 1) := by decide +kernel
theorem dX19_drain_45 : decode cX19_drain 45 = .ok (.aaload, 1) := by decide +kernel
theorem dX19_drain_46 : decode cX19_drain 46 = .ok (.iload_n 3, 1) := by decide +kernel
theorem dX19_drain_47 : decode cX19_drain 47 = .ok (.putfield 770, 3) := by decide +kernel
theorem dX19_drain_50 : decode cX19_drain 50 = .ok (.return_, 1) := by decide +kernel
theorem dX19_drained_0 : decode cX19_drained 0 = .ok (.aload_n 0, 1) := by decide +kernel
theorem dX19_drained_1 : decode cX19_drained 1 = .ok (.aload_n 0, 1) := by decide +kernel
theorem dX19_drained_2 : decode cX19_drained 2 = .ok (.iload_n 1, 1) := by decide +kernel
theorem dX19_drained_3 : decode cX19_drained 3 = .ok (.iload_n 2, 1) := by decide +kernel
theorem dX19_drained_4 : decode cX19_drained 4 = .ok (.invokevirtual 892, 3) := by decide +kernel
theorem dX19_drained_7 : decode cX19_drained 7 = .ok (.ifCond .ne 7, 3) := by decide +kernel
theorem dX19_drained_10 : decode cX19_drained 10 = .ok (.iconst 1, 1) := by decide +kernel
theorem dX19_drained_11 : decode cX19_drained 11 = .ok (.goto 4, 3) := by decide +kernel
theorem dX19_drained_14 : decode cX19_drained 14 = .ok (.iconst 0, 1) := by decide +kernel
theorem dX19_drained_15 : decode cX19_drained 15 = .ok (.iconst 0, 1) := by decide +kernel
theorem dX19_drained_16 : decode cX19_drained 16 = .ok (.invokevirtual 865, 3) := by decide +kernel
theorem dX19_drained_19 : decode cX19_drained 19 = .ok (.ifCond .eq 7, 3) := by decide +kernel
theorem dX19_drained_22 : decode cX19_drained 22 = .ok (.iconst 0, 1) := by decide +kernel
theorem dX19_drained_23 : decode cX19_drained 23 = .ok (.goto 17, 3) := by decide +kernel
theorem dX19_drained_26 : decode cX19_drained 26 = .ok (.aload_n 0, 1) := by decide +kernel
theorem dX19_drained_27 : decode cX19_drained 27 = .ok (.getfield 114, 3) := by decide +kernel
theorem dX19_drained_30 : decode cX19_drained 30 = .ok (.iload_n 1, 1) := by decide +kernel
theorem dX19_drained_31 : decode cX19_drained 31 = .ok (.aaload, 1) := by decide +kernel
theorem dX19_drained_32 : decode cX19_drained 32 = .ok (.getfield 340, 3) := by decide +kernel
theorem dX19_drained_35 : decode cX19_drained 35 = .ok (.iload_n 2, 1) := by decide +kernel
theorem dX19_drained_36 : decode cX19_drained 36 = .ok (.aaload, 1) := by decide +kernel
theorem dX19_drained_37 : decode cX19_drained 37 = .ok (.getfield 773, 3) := by decide +kernel
theorem dX19_drained_40 : decode cX19_drained 40 = .ok (.ireturn, 1) := by decide +kernel
theorem dX19_strays_0 : decode cX19_strays 0 = .ok (.aload_n 0, 1) := by decide +kernel
theorem dX19_strays_1 : decode cX19_strays 1 = .ok (.iconst 0, 1) := by decide +kernel
theorem dX19_strays_2 : decode cX19_strays 2 = .ok (.putfield 140, 3) := by decide +kernel
theorem dX19_strays_5 : decode cX19_strays 5 = .ok (.aload_n 0, 1) := by decide +kernel
theorem dX19_strays_6 : decode cX19_strays 6 = .ok (.getfield 807, 3) := by decide +kernel
theorem dX19_strays_9 : decode cX19_strays 9 = .ok (.ireturn, 1) := by decide +kernel
theorem dX19_areJoined_0 : decode cX19_areJoined 0 = .ok (.aload_n 0, 1) := by decide +kernel
theorem dX19_areJoined_1 : decode cX19_areJoined 1 = .ok (.getfield 120, 3) := by decide +kernel
theorem dX19_areJoined_4 : decode cX19_areJoined 4 = .ok (.iload_n 1, 1) := by decide +kernel
theorem dX19_areJoined_5 : decode cX19_areJoined 5 = .ok (.aaload, 1) := by decide +kernel
theorem dX19_areJoined_6 : decode cX19_areJoined 6 = .ok (.getfield 158, 3) := by decide +kernel
theorem dX19_areJoined_9 : decode cX19_areJoined 9 = .ok (.ifCond .eq 15, 3) := by decide +kernel
theorem dX19_areJoined_12 : decode cX19_areJoined 12 = .ok (.aload_n 0, 1) := by decide +kernel
theorem dX19_areJoined_13 : decode cX19_areJoined 13 = .ok (.getfield 120, 3) := by decide +kernel
theorem dX19_areJoined_16 : decode cX19_areJoined 16 = .ok (.iload_n 2, 1) := by decide +kernel
theorem dX19_areJoined_17 : decode cX19_areJoined 17 = .ok (.aaload, 1) := by decide +kernel
theorem dX19_areJoined_18 : decode cX19_areJoined 18 = .ok (.getfield 158, 3) := by decide +kernel
theorem dX19_areJoined_21 : decode cX19_areJoined 21 = .ok (.ifCond .ne 5, 3) := by decide +kernel
theorem dX19_areJoined_24 : decode cX19_areJoined 24 = .ok (.iconst 0, 1) := by decide +kernel
theorem dX19_areJoined_25 : decode cX19_areJoined 25 = .ok (.ireturn, 1) := by decide +kernel
theorem dX19_areJoined_26 : decode cX19_areJoined 26 = .ok (.iconst 0, 1) := by decide +kernel
theorem dX19_areJoined_27 : decode cX19_areJoined 27 = .ok (.istore_n 3, 1) := by decide +kernel
theorem dX19_areJoined_28 : decode cX19_areJoined 28 = .ok (.iload_n 3, 1) := by decide +kernel
theorem dX19_areJoined_29 : decode cX19_areJoined 29 = .ok (.bipush 24, 2) := by decide +kernel
theorem dX19_areJoined_31 : decode cX19_areJoined 31 = .ok (.if_icmp .ge 25, 3) := by decide +kernel
theorem dX19_areJoined_34 : decode cX19_areJoined 34 = .ok (.aload_n 0, 1) := by decide +kernel
theorem dX19_areJoined_35 : decode cX19_areJoined 35 = .ok (.getfield 136, 3) := by decide +kernel
theorem dX19_areJoined_38 : decode cX19_areJoined 38 = .ok (.iload_n 3, 1) := by decide +kernel
theorem dX19_areJoined_39 : decode cX19_areJoined 39 = .ok (.iload_n 3, 1) := by decide +kernel
theorem dX19_areJoined_40 : decode cX19_areJoined 40 = .ok (.iload_n 1, 1) := by decide +kernel
theorem dX19_areJoined_41 : decode cX19_areJoined 41 = .ok (.if_icmp .ne 7, 3) := by decide +kernel
theorem dX19_areJoined_44 : decode cX19_areJoined 44 = .ok (.iconst 1, 1) := by decide +kernel
theorem dX19_areJoined_45 : decode cX19_areJoined 45 = .ok (.goto 4, 3) := by decide +kernel
theorem dX19_areJoined_48 : decode cX19_areJoined 48 = .ok (.iconst 0, 1) := by decide +kernel
theorem dX19_areJoined_49 : decode cX19_areJoined 49 = .ok (.bastore, 1) := by decide +kernel
theorem dX19_areJoined_50 : decode cX19_areJoined 50 = .ok (.iinc 3 1, 3) := by decide +kernel
theorem dX19_areJoined_53 : decode cX19_areJoined 53 = .ok (.goto (-25), 3) := by decide +kernel
theorem dX19_areJoined_56 : decode cX19_areJoined 56 = .ok (.iconst 1, 1) := by decide +kernel
theorem dX19_areJoined_57 : decode cX19_areJoined 57 = .ok (.istore_n 3, 1) := by decide +kernel
theorem dX19_areJoined_58 : decode cX19_areJoined 58 = .ok (.iload_n 3, 1) := by decide +kernel
theorem dX19_areJoined_59 : decode cX19_areJoined 59 = .ok (.ifCond .eq 182, 3) := by decide +kernel
theorem dX19_areJoined_62 : decode cX19_areJoined 62 = .ok (.iconst 0, 1) := by decide +kernel
theorem dX19_areJoined_63 : decode cX19_areJoined 63 = .ok (.istore_n 3, 1) := by decide +kernel
theorem dX19_areJoined_64 : decode cX19_areJoined 64 = .ok (.iconst 0, 1) := by decide +kernel
theorem dX19_areJoined_65 : decode cX19_areJoined 65 = .ok (.istore 4, 2) := by decide +kernel
theorem dX19_areJoined_67 : decode cX19_areJoined 67 = .ok (.iload 4, 2) := by decide +kernel
theorem dX19_areJoined_69 : decode cX19_areJoined 69 = .ok (.aload_n 0, 1) := by decide +kernel
theorem dX19_areJoined_70 : decode cX19_areJoined 70 = .ok (.getfield 831, 3) := by decide +kernel
theorem dX19_areJoined_73 : decode cX19_areJoined 73 = .ok (.if_icmp .ge 165, 3) := by decide +kernel
theorem dX19_areJoined_76 : decode cX19_areJoined 76 = .ok (.iconst 0, 1) := by decide +kernel
theorem dX19_areJoined_77 : decode cX19_areJoined 77 = .ok (.istore 5, 2) := by decide +kernel
theorem dX19_areJoined_79 : decode cX19_areJoined 79 = .ok (.iconst 0, 1) := by decide +kernel
theorem dX19_areJoined_80 : decode cX19_areJoined 80 = .ok (.istore 6, 2) := by decide +kernel
theorem dX19_areJoined_82 : decode cX19_areJoined 82 = .ok (.aload_n 0, 1) := by decide +kernel
theorem dX19_areJoined_83 : decode cX19_areJoined 83 = .ok (.iload 4, 2) := by decide +kernel
theorem dX19_areJoined_85 : decode cX19_areJoined 85 = .ok (.invokevirtual 875, 3) := by decide +kernel
theorem dX19_areJoined_88 : decode cX19_areJoined 88 = .ok (.ifCond .eq 63, 3) := by decide +kernel
theorem dX19_areJoined_91 : decode cX19_areJoined 91 = .ok (.iload 6, 2) := by decide +kernel
theorem dX19_areJoined_93 : decode cX19_areJoined 93 = .ok (.aload_n 0, 1) := by decide +kernel
theorem dX19_areJoined_94 : decode cX19_areJoined 94 = .ok (.getfield 114, 3) := by decide +kernel
theorem dX19_areJoined_97 : decode cX19_areJoined 97 = .ok (.iload 4, 2) := by decide +kernel
theorem dX19_areJoined_99 : decode cX19_areJoined 99 = .ok (.aaload, 1) := by decide +kernel
theorem dX19_areJoined_100 : decode cX19_areJoined 100 = .ok (.getfield 273, 3) := by decide +kernel
theorem dX19_areJoined_103 : decode cX19_areJoined 103 = .ok (.if_icmp .ge 48, 3) := by decide +kernel
theorem dX19_areJoined_106 : decode cX19_areJoined 106 = .ok (.iload 5, 2) := by decide +kernel
theorem dX19_areJoined_108 : decode cX19_areJoined 108 = .ok (.ifCond .ne 30, 3) := by decide +kernel
theorem dX19_areJoined_111 : decode cX19_areJoined 111 = .ok (.aload_n 0, 1) := by decide +kernel
theorem dX19_areJoined_112 : decode cX19_areJoined 112 = .ok (.getfield 136, 3) := by decide +kernel
theorem dX19_areJoined_115 : decode cX19_areJoined 115 = .ok (.aload_n 0, 1) := by decide +kernel
theorem dX19_areJoined_116 : decode cX19_areJoined 116 = .ok (.getfield 114, 3) := by decide +kernel
theorem dX19_areJoined_119 : decode cX19_areJoined 119 = .ok (.iload 4, 2) := by decide +kernel
theorem dX19_areJoined_121 : decode cX19_areJoined 121 = .ok (.aaload, 1) := by decide +kernel
theorem dX19_areJoined_122 : decode cX19_areJoined 122 = .ok (.getfield 276, 3) := by decide +kernel
theorem dX19_areJoined_125 : decode cX19_areJoined 125 = .ok (.iload 6, 2) := by decide +kernel
theorem dX19_areJoined_127 : decode cX19_areJoined 127 = .ok (.aaload, 1) := by decide +kernel
theorem dX19_areJoined_128 : decode cX19_areJoined 128 = .ok (.getfield 149, 3) := by decide +kernel
theorem dX19_areJoined_131 : decode cX19_areJoined 131 = .ok (.getfield 181, 3) := by decide +kernel
theorem dX19_areJoined_134 : decode cX19_areJoined 134 = .ok (.baload, 1) := by decide +kernel
theorem dX19_areJoined_135 : decode cX19_areJoined 135 = .ok (.ifCond .eq 7, 3) := by decide +kernel
theorem dX19_areJoined_138 : decode cX19_areJoined 138 = .ok (.iconst 1, 1) := by decide +kernel
theorem dX19_areJoined_139 : decode cX19_areJoined 139 = .ok (.goto 4, 3) := by decide +kernel
theorem dX19_areJoined_142 : decode cX19_areJoined 142 = .ok (.iconst 0, 1) := by decide +kernel
theorem dX19_areJoined_143 : decode cX19_areJoined 143 = .ok (.istore 5, 2) := by decide +kernel
theorem dX19_areJoined_145 : decode cX19_areJoined 145 = .ok (.iinc 6 1, 3) := by decide +kernel
theorem dX19_areJoined_148 : decode cX19_areJoined 148 = .ok (.goto (-66), 3) := by decide +kernel
theorem dX19_areJoined_151 : decode cX19_areJoined 151 = .ok (.iconst 0, 1) := by decide +kernel
theorem dX19_areJoined_152 : decode cX19_areJoined 152 = .ok (.istore 6, 2) := by decide +kernel
theorem dX19_areJoined_154 : decode cX19_areJoined 154 = .ok (.iload 5, 2) := by decide +kernel
theorem dX19_areJoined_156 : decode cX19_areJoined 156 = .ok (.ifCond .eq 76, 3) := by decide +kernel
theorem dX19_areJoined_159 : decode cX19_areJoined 159 = .ok (.iload 6, 2) := by decide +kernel
theorem dX19_areJoined_161 : decode cX19_areJoined 161 = .ok (.aload_n 0, 1) := by decide +kernel
theorem dX19_areJoined_162 : decode cX19_areJoined 162 = .ok (.getfield 114, 3) := by decide +kernel
theorem dX19_areJoined_165 : decode cX19_areJoined 165 = .ok (.iload 4, 2) := by decide +kernel
theorem dX19_areJoined_167 : decode cX19_areJoined 167 = .ok (.aaload, 1) := by decide +kernel
theorem dX19_areJoined_168 : decode cX19_areJoined 168 = .ok (.getfield 273, 3) := by decide +kernel
theorem dX19_areJoined_171 : decode cX19_areJoined 171 = .ok (.if_icmp .ge 61, 3) := by decide +kernel
theorem dX19_areJoined_174 : decode cX19_areJoined 174 = .ok (.aload_n 0, 1) := by decide +kernel
theorem dX19_areJoined_175 : decode cX19_areJoined 175 = .ok (.getfield 114, 3) := by decide +kernel
theorem dX19_areJoined_178 : decode cX19_areJoined 178 = .ok (.iload 4, 2) := by decide +kernel
theorem dX19_areJoined_180 : decode cX19_areJoined 180 = .ok (.aaload, 1) := by decide +kernel
theorem dX19_areJoined_181 : decode cX19_areJoined 181 = .ok (.getfield 276, 3) := by decide +kernel
theorem dX19_areJoined_184 : decode cX19_areJoined 184 = .ok (.iload 6, 2) := by decide +kernel
theorem dX19_areJoined_186 : decode cX19_areJoined 186 = .ok (.aaload, 1) := by decide +kernel
theorem dX19_areJoined_187 : decode cX19_areJoined 187 = .ok (.getfield 149, 3) := by decide +kernel
theorem dX19_areJoined_190 : decode cX19_areJoined 190 = .ok (.astore 7, 2) := by decide +kernel
theorem dX19_areJoined_192 : decode cX19_areJoined 192 = .ok (.aload 7, 2) := by decide +kernel
theorem dX19_areJoined_194 : decode cX19_areJoined 194 = .ok (.getfield 158, 3) := by decide +kernel
theorem dX19_areJoined_197 : decode cX19_areJoined 197 = .ok (.ifCond .eq 29, 3) := by decide +kernel
theorem dX19_areJoined_200 : decode cX19_areJoined 200 = .ok (.aload_n 0, 1) := by decide +kernel
theorem dX19_areJoined_201 : decode cX19_areJoined 201 = .ok (.getfield 136, 3) := by decide +kernel
theorem dX19_areJoined_204 : decode cX19_areJoined 204 = .ok (.aload 7, 2) := by decide +kernel
theorem dX19_areJoined_206 : decode cX19_areJoined 206 = .ok (.getfield 181, 3) := by decide +kernel
theorem dX19_areJoined_209 : decode cX19_areJoined 209 = .ok (.baload, 1) := by decide +kernel
theorem dX19_areJoined_210 : decode cX19_areJoined 210 = .ok (.ifCond .ne 16, 3) := by decide +kernel
theorem dX19_areJoined_213 : decode cX19_areJoined 213 = .ok (.aload_n 0, 1) := by decide +kernel
theorem dX19_areJoined_214 : decode cX19_areJoined 214 = .ok (.getfield 136, 3) := by decide +kernel
theorem dX19_areJoined_217 : decode cX19_areJoined 217 = .ok (.aload 7, 2) := by decide +kernel
theorem dX19_areJoined_219 : decode cX19_areJoined 219 = .ok (.getfield 181, 3) := by decide +kernel
theorem dX19_areJoined_222 : decode cX19_areJoined 222 = .ok (.iconst 1, 1) := by decide +kernel
theorem dX19_areJoined_223 : decode cX19_areJoined 223 = .ok (.bastore, 1) := by decide +kernel
theorem dX19_areJoined_224 : decode cX19_areJoined 224 = .ok (.iconst 1, 1) := by decide +kernel
theorem dX19_areJoined_225 : decode cX19_areJoined 225 = .ok (.istore_n 3, 1) := by decide +kernel
theorem dX19_areJoined_226 : decode cX19_areJoined 226 = .ok (.iinc 6 1, 3) := by decide +kernel
theorem dX19_areJoined_229 : decode cX19_areJoined 229 = .ok (.goto (-75), 3) := by decide +kernel
theorem dX19_areJoined_232 : decode cX19_areJoined 232 = .ok (.iinc 4 1, 3) := by decide +kernel
theorem dX19_areJoined_235 : decode cX19_areJoined 235 = .ok (.goto (-168), 3) := by decide +kernel
theorem dX19_areJoined_238 : decode cX19_areJoined 238 = .ok (.goto (-180), 3) := by decide +kernel
theorem dX19_areJoined_241 : decode cX19_areJoined 241 = .ok (.aload_n 0, 1) := by decide +kernel
theorem dX19_areJoined_242 : decode cX19_areJoined 242 = .ok (.getfield 136, 3) := by decide +kernel
theorem dX19_areJoined_245 : decode cX19_areJoined 245 = .ok (.iload_n 2, 1) := by decide +kernel
theorem dX19_areJoined_246 : decode cX19_areJoined 246 = .ok (.baload, 1) := by decide +kernel
theorem dX19_areJoined_247 : decode cX19_areJoined 247 = .ok (.ireturn, 1) := by decide +kernel
theorem dX19_netOfHost_0 : decode cX19_netOfHost 0 = .ok (.iconst 0, 1) := by decide +kernel
theorem dX19_netOfHost_1 : decode cX19_netOfHost 1 = .ok (.istore_n 2, 1) := by decide +kernel
theorem dX19_netOfHost_2 : decode cX19_netOfHost 2 = .ok (.iload_n 2, 1) := by decide +kernel
theorem dX19_netOfHost_3 : decode cX19_netOfHost 3 = .ok (.aload_n 0, 1) := by decide +kernel
theorem dX19_netOfHost_4 : decode cX19_netOfHost 4 = .ok (.getfield 831, 3) := by decide +kernel
theorem dX19_netOfHost_7 : decode cX19_netOfHost 7 = .ok (.if_icmp .ge 53, 3) := by decide +kernel
theorem dX19_netOfHost_10 : decode cX19_netOfHost 10 = .ok (.aload_n 0, 1) := by decide +kernel
theorem dX19_netOfHost_11 : decode cX19_netOfHost 11 = .ok (.getfield 114, 3) := by decide +kernel
theorem dX19_netOfHost_14 : decode cX19_netOfHost 14 = .ok (.iload_n 2, 1) := by decide +kernel
theorem dX19_netOfHost_15 : decode cX19_netOfHost 15 = .ok (.aaload, 1) := by decide +kernel
theorem dX19_netOfHost_16 : decode cX19_netOfHost 16 = .ok (.getfield 298, 3) := by decide +kernel
theorem dX19_netOfHost_19 : decode cX19_netOfHost 19 = .ok (.ifCond .ne 35, 3) := by decide +kernel
theorem dX19_netOfHost_22 : decode cX19_netOfHost 22 = .ok (.aload_n 0, 1) := by decide +kernel
theorem dX19_netOfHost_23 : decode cX19_netOfHost 23 = .ok (.aload_n 0, 1) := by decide +kernel
theorem dX19_netOfHost_24 : decode cX19_netOfHost 24 = .ok (.getfield 114, 3) := by decide +kernel
theorem dX19_netOfHost_27 : decode cX19_netOfHost 27 = .ok (.iload_n 2, 1) := by decide +kernel
theorem dX19_netOfHost_28 : decode cX19_netOfHost 28 = .ok (.aaload, 1) := by decide +kernel
theorem dX19_netOfHost_29 : decode cX19_netOfHost 29 = .ok (.iload_n 1, 1) := by decide +kernel
theorem dX19_netOfHost_30 : decode cX19_netOfHost 30 = .ok (.invokevirtual 318, 3) := by decide +kernel
theorem dX19_netOfHost_33 : decode cX19_netOfHost 33 = .ok (.ifCond .eq 21, 3) := by decide +kernel
theorem dX19_netOfHost_36 : decode cX19_netOfHost 36 = .ok (.aload_n 0, 1) := by decide +kernel
theorem dX19_netOfHost_37 : decode cX19_netOfHost 37 = .ok (.getfield 114, 3) := by decide +kernel
theorem dX19_netOfHost_40 : decode cX19_netOfHost 40 = .ok (.iload_n 2, 1) := by decide +kernel
theorem dX19_netOfHost_41 : decode cX19_netOfHost 41 = .ok (.aaload, 1) := by decide +kernel
theorem dX19_netOfHost_42 : decode cX19_netOfHost 42 = .ok (.getfield 276, 3) := by decide +kernel
theorem dX19_netOfHost_45 : decode cX19_netOfHost 45 = .ok (.iconst 0, 1) := by decide +kernel
theorem dX19_netOfHost_46 : decode cX19_netOfHost 46 = .ok (.aaload, 1) := by decide +kernel
theorem dX19_netOfHost_47 : decode cX19_netOfHost 47 = .ok (.getfield 149, 3) := by decide +kernel
theorem dX19_netOfHost_50 : decode cX19_netOfHost 50 = .ok (.getfield 181, 3) := by decide +kernel
theorem dX19_netOfHost_53 : decode cX19_netOfHost 53 = .ok (.ireturn, 1) := by decide +kernel
theorem dX19_netOfHost_54 : decode cX19_netOfHost 54 = .ok (.iinc 2 1, 3) := by decide +kernel
theorem dX19_netOfHost_57 : decode cX19_netOfHost 57 = .ok (.goto (-55), 3) := by decide +kernel
theorem dX19_netOfHost_60 : decode cX19_netOfHost 60 = .ok (.iconst (-1), 1) := by decide +kernel
theorem dX19_netOfHost_61 : decode cX19_netOfHost 61 = .ok (.ireturn, 1) := by decide +kernel
theorem dX19_overdue_0 : decode cX19_overdue 0 = .ok (.aload_n 0, 1) := by decide +kernel
theorem dX19_overdue_1 : decode cX19_overdue 1 = .ok (.iconst 0, 1) := by decide +kernel
theorem dX19_overdue_2 : decode cX19_overdue 2 = .ok (.putfield 140, 3) := by decide +kernel
theorem dX19_overdue_5 : decode cX19_overdue 5 = .ok (.aload_n 0, 1) := by decide +kernel
theorem dX19_overdue_6 : decode cX19_overdue 6 = .ok (.getfield 143, 3) := by decide +kernel
theorem dX19_overdue_9 : decode cX19_overdue 9 = .ok (.aload_n 0, 1) := by decide +kernel
theorem dX19_overdue_10 : decode cX19_overdue 10 = .ok (.getfield 146, 3) := by decide +kernel
theorem dX19_overdue_13 : decode cX19_overdue 13 = .ok (.isub, 1) := by decide +kernel
theorem dX19_overdue_14 : decode cX19_overdue 14 = .ok (.aload_n 0, 1) := by decide +kernel
theorem dX19_overdue_15 : decode cX19_overdue 15 = .ok (.invokevirtual 931, 3) := by decide +kernel
theorem dX19_overdue_18 : decode cX19_overdue 18 = .ok (.if_icmp .ge 5, 3) := by decide +kernel
theorem dX19_overdue_21 : decode cX19_overdue 21 = .ok (.iconst 0, 1) := by decide +kernel
theorem dX19_overdue_22 : decode cX19_overdue 22 = .ok (.ireturn, 1) := by decide +kernel
theorem dX19_overdue_23 : decode cX19_overdue 23 = .ok (.iconst 0, 1) := by decide +kernel
theorem dX19_overdue_24 : decode cX19_overdue 24 = .ok (.istore_n 1, 1) := by decide +kernel
theorem dX19_overdue_25 : decode cX19_overdue 25 = .ok (.iconst 0, 1) := by decide +kernel
theorem dX19_overdue_26 : decode cX19_overdue 26 = .ok (.istore_n 2, 1) := by decide +kernel
theorem dX19_overdue_27 : decode cX19_overdue 27 = .ok (.iload_n 2, 1) := by decide +kernel
theorem dX19_overdue_28 : decode cX19_overdue 28 = .ok (.aload_n 0, 1) := by decide +kernel
theorem dX19_overdue_29 : decode cX19_overdue 29 = .ok (.getfield 831, 3) := by decide +kernel
theorem dX19_overdue_32 : decode cX19_overdue 32 = .ok (.if_icmp .ge 119, 3) := by decide +kernel
theorem dX19_overdue_35 : decode cX19_overdue 35 = .ok (.aload_n 0, 1) := by decide +kernel
theorem dX19_overdue_36 : decode cX19_overdue 36 = .ok (.getfield 114, 3) := by decide +kernel
theorem dX19_overdue_39 : decode cX19_overdue 39 = .ok (.iload_n 2, 1) := by decide +kernel
theorem dX19_overdue_40 : decode cX19_overdue 40 = .ok (.aaload, 1) := by decide +kernel
theorem dX19_overdue_41 : decode cX19_overdue 41 = .ok (.getfield 298, 3) := by decide +kernel
theorem dX19_overdue_44 : decode cX19_overdue 44 = .ok (.ifCond .eq 55, 3) := by decide +kernel
theorem dX19_overdue_47 : decode cX19_overdue 47 = .ok (.aload_n 0, 1) := by decide +kernel
theorem dX19_overdue_48 : decode cX19_overdue 48 = .ok (.iload_n 2, 1) := by decide +kernel
theorem dX19_overdue_49 : decode cX19_overdue 49 = .ok (.invokevirtual 925, 3) := by decide +kernel
theorem dX19_overdue_52 : decode cX19_overdue 52 = .ok (.iconst 0, 1) := by decide +kernel
theorem dX19_overdue_53 : decode cX19_overdue 53 = .ok (.istore_n 3, 1) := by decide +kernel
theorem dX19_overdue_54 : decode cX19_overdue 54 = .ok (.iload_n 3, 1) := by decide +kernel
theorem dX19_overdue_55 : decode cX19_overdue 55 = .ok (.aload_n 0, 1) := by decide +kernel
theorem dX19_overdue_56 : decode cX19_overdue 56 = .ok (.getfield 270, 3) := by decide +kernel
theorem dX19_overdue_59 : decode cX19_overdue 59 = .ok (.if_icmp .ge 37, 3) := by decide +kernel
theorem dX19_overdue_62 : decode cX19_overdue 62 = .ok (.iload_n 1, 1) := by decide +kernel
theorem dX19_overdue_63 : decode cX19_overdue 63 = .ok (.aload_n 0, 1) := by decide +kernel
theorem dX19_overdue_64 : decode cX19_overdue 64 = .ok (.getfield 114, 3) := by decide +kernel
theorem dX19_overdue_67 : decode cX19_overdue 67 = .ok (.iload_n 2, 1) := by decide +kernel
theorem dX19_overdue_68 : decode cX19_overdue 68 = .ok (.aaload, 1) := by decide +kernel
theorem dX19_overdue_69 : decode cX19_overdue 69 = .ok (.getfield 301, 3) := by decide +kernel
theorem dX19_overdue_72 : decode cX19_overdue 72 = .ok (.iload_n 3, 1) := by decide +kernel
theorem dX19_overdue_73 : decode cX19_overdue 73 = .ok (.iaload, 1) := by decide +kernel
theorem dX19_overdue_74 : decode cX19_overdue 74 = .ok (.aload_n 0, 1) := by decide +kernel
theorem dX19_overdue_75 : decode cX19_overdue 75 = .ok (.iload_n 2, 1) := by decide +kernel
theorem dX19_overdue_76 : decode cX19_overdue 76 = .ok (.iload_n 3, 1) := by decide +kernel
theorem dX19_overdue_77 : decode cX19_overdue 77 = .ok (.invokevirtual 928, 3) := by decide +kernel
theorem dX19_overdue_80 : decode cX19_overdue 80 = .ok (.if_icmp .eq 7, 3) := by decide +kernel
theorem dX19_overdue_83 : decode cX19_overdue 83 = .ok (.iconst 1, 1) := by decide +kernel
theorem dX19_overdue_84 : decode cX19_overdue 84 = .ok (.goto 4, 3) := by decide +kernel
theorem dX19_overdue_87 : decode cX19_overdue 87 = .ok (.iconst 0, 1) := by decide +kernel
theorem dX19_overdue_88 : decode cX19_overdue 88 = .ok (.iadd, 1) := by decide +kernel
theorem dX19_overdue_89 : decode cX19_overdue 89 = .ok (.istore_n 1, 1) := by decide +kernel
theorem dX19_overdue_90 : decode cX19_overdue 90 = .ok (.iinc 3 1, 3) := by decide +kernel
theorem dX19_overdue_93 : decode cX19_overdue 93 = .ok (.goto (-39), 3) := by decide +kernel
theorem dX19_overdue_96 : decode cX19_overdue 96 = .ok (.goto 49, 3) := by decide +kernel
theorem dX19_overdue_99 : decode cX19_overdue 99 = .ok (.iconst 0, 1) := by decide +kernel
theorem dX19_overdue_100 : decode cX19_overdue 100 = .ok (.istore_n 3, 1) := by decide +kernel
theorem dX19_overdue_101 : decode cX19_overdue 101 = .ok (.iload_n 3, 1) := by decide +kernel
theorem dX19_overdue_102 : decode cX19_overdue 102 = .ok (.bipush 6, 2) := by decide +kernel
theorem dX19_overdue_104 : decode cX19_overdue 104 = .ok (.if_icmp .ge 41, 3) := by decide +kernel
theorem dX19_overdue_107 : decode cX19_overdue 107 = .ok (.iload_n 1, 1) := by decide +kernel
theorem dX19_overdue_108 : decode cX19_overdue 108 = .ok (.aload_n 0, 1) := by decide +kernel
theorem dX19_overdue_109 : decode cX19_overdue 109 = .ok (.aload_n 0, 1) := by decide +kernel
theorem dX19_overdue_110 : decode cX19_overdue 110 = .ok (.getfield 114, 3) := by decide +kernel
theorem dX19_overdue_113 : decode cX19_overdue 113 = .ok (.iload_n 2, 1) := by decide +kernel
theorem dX19_overdue_114 : decode cX19_overdue 114 = .ok (.aaload, 1) := by decide +kernel
theorem dX19_overdue_115 : decode cX19_overdue 115 = .ok (.aload_n 0, 1) := by decide +kernel
theorem dX19_overdue_116 : decode cX19_overdue 116 = .ok (.getfield 114, 3) := by decide +kernel
theorem dX19_overdue_119 : decode cX19_overdue 119 = .ok (.iload_n 2, 1) := by decide +kernel
theorem dX19_overdue_120 : decode cX19_overdue 120 = .ok (.aaload, 1) := by decide +kernel
theorem dX19_overdue_121 : decode cX19_overdue 121 = .ok (.getfield 340, 3) := by decide +kernel
theorem dX19_overdue_124 : decode cX19_overdue 124 = .ok (.iload_n 3, 1) := by decide +kernel
theorem dX19_overdue_125 : decode cX19_overdue 125 = .ok (.aaload, 1) := by decide +kernel
theorem dX19_overdue_126 : decode cX19_overdue 126 = .ok (.invokevirtual 934, 3) := by decide +kernel
theorem dX19_overdue_129 : decode cX19_overdue 129 = .ok (.ifCond .eq 7, 3) := by decide +kernel
theorem dX19_overdue_132 : decode cX19_overdue 132 = .ok (.iconst 1, 1) := by decide +kernel
theorem dX19_overdue_133 : decode cX19_overdue 133 = .ok (.goto 4, 3) := by decide +kernel
theorem dX19_overdue_136 : decode cX19_overdue 136 = .ok (.iconst 0, 1) := by decide +kernel
theorem dX19_overdue_137 : decode cX19_overdue 137 = .ok (.iadd, 1) := by decide +kernel
theorem dX19_overdue_138 : decode cX19_overdue 138 = .ok (.istore_n 1, 1) := by decide +kernel
theorem dX19_overdue_139 : decode cX19_overdue 139 = .ok (.iinc 3 1, 3) := by decide +kernel
theorem dX19_overdue_142 : decode cX19_overdue 142 = .ok (.goto (-41), 3) := by decide +kernel
theorem dX19_overdue_145 : decode cX19_overdue 145 = .ok (.iinc 2 1, 3) := by decide +kernel
theorem dX19_overdue_148 : decode cX19_overdue 148 = .ok (.goto (-121), 3) := by decide +kernel
theorem dX19_overdue_151 : decode cX19_overdue 151 = .ok (.iload_n 1, 1) := by decide +kernel
theorem dX19_overdue_152 : decode cX19_overdue 152 = .ok (.ireturn, 1) := by decide +kernel
theorem dX19_isLate_0 : decode cX19_isLate 0 = .ok (.aload_n 2, 1) := by decide +kernel
theorem dX19_isLate_1 : decode cX19_isLate 1 = .ok (.getfield 350, 3) := by decide +kernel
theorem dX19_isLate_4 : decode cX19_isLate 4 = .ok (.ifCond .eq 36, 3) := by decide +kernel
theorem dX19_isLate_7 : decode cX19_isLate 7 = .ok (.aload_n 2, 1) := by decide +kernel
theorem dX19_isLate_8 : decode cX19_isLate 8 = .ok (.getfield 344, 3) := by decide +kernel
theorem dX19_isLate_11 : decode cX19_isLate 11 = .ok (.getfield 353, 3) := by decide +kernel
theorem dX19_isLate_14 : decode cX19_isLate 14 = .ok (.iconst 4, 1) := by decide +kernel
theorem dX19_isLate_15 : decode cX19_isLate 15 = .ok (.if_icmp .lt 25, 3) := by decide +kernel
theorem dX19_isLate_18 : decode cX19_isLate 18 = .ok (.aload_n 2, 1) := by decide +kernel
theorem dX19_isLate_19 : decode cX19_isLate 19 = .ok (.getfield 344, 3) := by decide +kernel
theorem dX19_isLate_22 : decode cX19_isLate 22 = .ok (.getfield 353, 3) := by decide +kernel
theorem dX19_isLate_25 : decode cX19_isLate 25 = .ok (.bipush 11, 2) := by decide +kernel
theorem dX19_isLate_27 : decode cX19_isLate 27 = .ok (.if_icmp .eq 13, 3) := by decide +kernel
theorem dX19_isLate_30 : decode cX19_isLate 30 = .ok (.aload_n 2, 1) := by decide +kernel
theorem dX19_isLate_31 : decode cX19_isLate 31 = .ok (.getfield 344, 3) := by decide +kernel
theorem dX19_isLate_34 : decode cX19_isLate 34 = .ok (.invokevirtual 895, 3) := by decide +kernel
theorem dX19_isLate_37 : decode cX19_isLate 37 = .ok (.ifCond .ne 5, 3) := by decide +kernel
theorem dX19_isLate_40 : decode cX19_isLate 40 = .ok (.iconst 0, 1) := by decide +kernel
theorem dX19_isLate_41 : decode cX19_isLate 41 = .ok (.ireturn, 1) := by decide +kernel
theorem dX19_isLate_42 : decode cX19_isLate 42 = .ok (.aload_n 0, 1) := by decide +kernel
theorem dX19_isLate_43 : decode cX19_isLate 43 = .ok (.aload_n 2, 1) := by decide +kernel
theorem dX19_isLate_44 : decode cX19_isLate 44 = .ok (.getfield 344, 3) := by decide +kernel
theorem dX19_isLate_47 : decode cX19_isLate 47 = .ok (.getfield 361, 3) := by decide +kernel
theorem dX19_isLate_50 : decode cX19_isLate 50 = .ok (.invokevirtual 938, 3) := by decide +kernel
theorem dX19_isLate_53 : decode cX19_isLate 53 = .ok (.istore_n 3, 1) := by decide +kernel
theorem dX19_isLate_54 : decode cX19_isLate 54 = .ok (.iload_n 3, 1) := by decide +kernel
theorem dX19_isLate_55 : decode cX19_isLate 55 = .ok (.iconst (-1), 1) := by decide +kernel
theorem dX19_isLate_56 : decode cX19_isLate 56 = .ok (.if_icmp .eq 27, 3) := by decide +kernel
theorem dX19_isLate_59 : decode cX19_isLate 59 = .ok (.aload_n 0, 1) := by decide +kernel
theorem dX19_isLate_60 : decode cX19_isLate 60 = .ok (.aload_n 1, 1) := by decide +kernel
theorem dX19_isLate_61 : decode cX19_isLate 61 = .ok (.getfield 276, 3) := by decide +kernel
theorem dX19_isLate_64 : decode cX19_isLate 64 = .ok (.iconst 0, 1) := by decide +kernel
theorem dX19_isLate_65 : decode cX19_isLate 65 = .ok (.aaload, 1) := by decide +kernel
theorem dX19_isLate_66 : decode cX19_isLate 66 = .ok (.getfield 149, 3) := by decide +kernel
theorem dX19_isLate_69 : decode cX19_isLate 69 = .ok (.getfield 181, 3) := by decide +kernel
theorem dX19_isLate_72 : decode cX19_isLate 72 = .ok (.iload_n 3, 1) := by decide +kernel
theorem dX19_isLate_73 : decode cX19_isLate 73 = .ok (.invokevirtual 941, 3) := by decide +kernel
theorem dX19_isLate_76 : decode cX19_isLate 76 = .ok (.ifCond .eq 7, 3) := by decide +kernel
theorem dX19_isLate_79 : decode cX19_isLate 79 = .ok (.iconst 1, 1) := by decide +kernel
theorem dX19_isLate_80 : decode cX19_isLate 80 = .ok (.goto 4, 3) := by decide +kernel
theorem dX19_isLate_83 : decode cX19_isLate 83 = .ok (.iconst 0, 1) := by decide +kernel
theorem dX19_isLate_84 : decode cX19_isLate 84 = .ok (.ireturn, 1) := by decide +kernel
theorem dJ13_bitCount_95d88_0 : decode cJ13_bitCount_95d88 0 = .ok (.lload_n 0, 1) := by decide +kernel
theorem dJ13_bitCount_95d88_1 : decode cJ13_bitCount_95d88 1 = .ok (.lload_n 0, 1) := by decide +kernel
theorem dJ13_bitCount_95d88_2 : decode cJ13_bitCount_95d88 2 = .ok (.iconst 1, 1) := by decide +kernel
theorem dJ13_bitCount_95d88_3 : decode cJ13_bitCount_95d88 3 = .ok (.lushr, 1) := by decide +kernel
theorem dJ13_bitCount_95d88_4 : decode cJ13_bitCount_95d88 4 = .ok (.ldc2_w 314, 3) := by decide +kernel
theorem dJ13_bitCount_95d88_7 : decode cJ13_bitCount_95d88 7 = .ok (.land, 1) := by decide +kernel
theorem dJ13_bitCount_95d88_8 : decode cJ13_bitCount_95d88 8 = .ok (.lsub, 1) := by decide +kernel
theorem dJ13_bitCount_95d88_9 : decode cJ13_bitCount_95d88 9 = .ok (.lstore_n 0, 1) := by decide +kernel
theorem dJ13_bitCount_95d88_10 : decode cJ13_bitCount_95d88 10 = .ok (.lload_n 0, 1) := by decide +kernel
theorem dJ13_bitCount_95d88_11 : decode cJ13_bitCount_95d88 11 = .ok (.ldc2_w 316, 3) := by decide +kernel
theorem dJ13_bitCount_95d88_14 : decode cJ13_bitCount_95d88 14 = .ok (.land, 1) := by decide +kernel
theorem dJ13_bitCount_95d88_15 : decode cJ13_bitCount_95d88 15 = .ok (.lload_n 0, 1) := by decide +kernel
theorem dJ13_bitCount_95d88_16 : decode cJ13_bitCount_95d88 16 = .ok (.iconst 2, 1) := by decide +kernel
theorem dJ13_bitCount_95d88_17 : decode cJ13_bitCount_95d88 17 = .ok (.lushr, 1) := by decide +kernel
theorem dJ13_bitCount_95d88_18 : decode cJ13_bitCount_95d88 18 = .ok (.ldc2_w 316, 3) := by decide +kernel
theorem dJ13_bitCount_95d88_21 : decode cJ13_bitCount_95d88 21 = .ok (.land, 1) := by decide +kernel
theorem dJ13_bitCount_95d88_22 : decode cJ13_bitCount_95d88 22 = .ok (.ladd, 1) := by decide +kernel
theorem dJ13_bitCount_95d88_23 : decode cJ13_bitCount_95d88 23 = .ok (.lstore_n 0, 1) := by decide +kernel
theorem dJ13_bitCount_95d88_24 : decode cJ13_bitCount_95d88 24 = .ok (.lload_n 0, 1) := by decide +kernel
theorem dJ13_bitCount_95d88_25 : decode cJ13_bitCount_95d88 25 = .ok (.lload_n 0, 1) := by decide +kernel
theorem dJ13_bitCount_95d88_26 : decode cJ13_bitCount_95d88 26 = .ok (.iconst 4, 1) := by decide +kernel
theorem dJ13_bitCount_95d88_27 : decode cJ13_bitCount_95d88 27 = .ok (.lushr, 1) := by decide +kernel
theorem dJ13_bitCount_95d88_28 : decode cJ13_bitCount_95d88 28 = .ok (.ladd, 1) := by decide +kernel
theorem dJ13_bitCount_95d88_29 : decode cJ13_bitCount_95d88 29 = .ok (.ldc2_w 318, 3) := by decide +kernel
theorem dJ13_bitCount_95d88_32 : decode cJ13_bitCount_95d88 32 = .ok (.land, 1) := by decide +kernel
theorem dJ13_bitCount_95d88_33 : decode cJ13_bitCount_95d88 33 = .ok (.lstore_n 0, 1) := by decide +kernel
theorem dJ13_bitCount_95d88_34 : decode cJ13_bitCount_95d88 34 = .ok (.lload_n 0, 1) := by decide +kernel
theorem dJ13_bitCount_95d88_35 : decode cJ13_bitCount_95d88 35 = .ok (.lload_n 0, 1) := by decide +kernel
theorem dJ13_bitCount_95d88_36 : decode cJ13_bitCount_95d88 36 = .ok (.bipush 8, 2) := by decide +kernel
theorem dJ13_bitCount_95d88_38 : decode cJ13_bitCount_95d88 38 = .ok (.lushr, 1) := by decide +kernel
theorem dJ13_bitCount_95d88_39 : decode cJ13_bitCount_95d88 39 = .ok (.ladd, 1) := by decide +kernel
theorem dJ13_bitCount_95d88_40 : decode cJ13_bitCount_95d88 40 = .ok (.lstore_n 0, 1) := by decide +kernel
theorem dJ13_bitCount_95d88_41 : decode cJ13_bitCount_95d88 41 = .ok (.lload_n 0, 1) := by decide +kernel
theorem dJ13_bitCount_95d88_42 : decode cJ13_bitCount_95d88 42 = .ok (.lload_n 0, 1) := by decide +kernel
theorem dJ13_bitCount_95d88_43 : decode cJ13_bitCount_95d88 43 = .ok (.bipush 16, 2) := by decide +kernel
theorem dJ13_bitCount_95d88_45 : decode cJ13_bitCount_95d88 45 = .ok (.lushr, 1) := by decide +kernel
theorem dJ13_bitCount_95d88_46 : decode cJ13_bitCount_95d88 46 = .ok (.ladd, 1) := by decide +kernel
theorem dJ13_bitCount_95d88_47 : decode cJ13_bitCount_95d88 47 = .ok (.lstore_n 0, 1) := by decide +kernel
theorem dJ13_bitCount_95d88_48 : decode cJ13_bitCount_95d88 48 = .ok (.lload_n 0, 1) := by decide +kernel
theorem dJ13_bitCount_95d88_49 : decode cJ13_bitCount_95d88 49 = .ok (.lload_n 0, 1) := by decide +kernel
theorem dJ13_bitCount_95d88_50 : decode cJ13_bitCount_95d88 50 = .ok (.bipush 32, 2) := by decide +kernel
theorem dJ13_bitCount_95d88_52 : decode cJ13_bitCount_95d88 52 = .ok (.lushr, 1) := by decide +kernel
theorem dJ13_bitCount_95d88_53 : decode cJ13_bitCount_95d88 53 = .ok (.ladd, 1) := by decide +kernel
theorem dJ13_bitCount_95d88_54 : decode cJ13_bitCount_95d88 54 = .ok (.lstore_n 0, 1) := by decide +kernel
theorem dJ13_bitCount_95d88_55 : decode cJ13_bitCount_95d88 55 = .ok (.lload_n 0, 1) := by decide +kernel
theorem dJ13_bitCount_95d88_56 : decode cJ13_bitCount_95d88 56 = .ok (.l2i, 1) := by decide +kernel
theorem dJ13_bitCount_95d88_57 : decode cJ13_bitCount_95d88 57 = .ok (.bipush 127, 2) := by decide +kernel
theorem dJ13_bitCount_95d88_59 : decode cJ13_bitCount_95d88 59 = .ok (.iand, 1) := by decide +kernel
theorem dJ13_bitCount_95d88_60 : decode cJ13_bitCount_95d88 60 = .ok (.ireturn, 1) := by decide +kernel
theorem dJ9_abs_0f7a4_0 : decode cJ9_abs_0f7a4 0 = .ok (.iload_n 0, 1) := by decide +kernel
theorem dJ9_abs_0f7a4_1 : decode cJ9_abs_0f7a4 1 = .ok (.ifCond .ge 8, 3) := by decide +kernel
theorem dJ9_abs_0f7a4_4 : decode cJ9_abs_0f7a4 4 = .ok (.iload_n 0, 1) := by decide +kernel
theorem dJ9_abs_0f7a4_5 : decode cJ9_abs_0f7a4 5 = .ok (.ineg, 1) := by decide +kernel
theorem dJ9_abs_0f7a4_6 : decode cJ9_abs_0f7a4 6 = .ok (.goto 4, 3) := by decide +kernel
theorem dJ9_abs_0f7a4_9 : decode cJ9_abs_0f7a4 9 = .ok (.iload_n 0, 1) := by decide +kernel
theorem dJ9_abs_0f7a4_10 : decode cJ9_abs_0f7a4 10 = .ok (.ireturn, 1) := by decide +kernel
theorem dJ9_max_7cf53_0 : decode cJ9_max_7cf53 0 = .ok (.iload_n 0, 1) := by decide +kernel
theorem dJ9_max_7cf53_1 : decode cJ9_max_7cf53 1 = .ok (.iload_n 1, 1) := by decide +kernel
theorem dJ9_max_7cf53_2 : decode cJ9_max_7cf53 2 = .ok (.if_icmp .lt 7, 3) := by decide +kernel
theorem dJ9_max_7cf53_5 : decode cJ9_max_7cf53 5 = .ok (.iload_n 0, 1) := by decide +kernel
theorem dJ9_max_7cf53_6 : decode cJ9_max_7cf53 6 = .ok (.goto 4, 3) := by decide +kernel
theorem dJ9_max_7cf53_9 : decode cJ9_max_7cf53 9 = .ok (.iload_n 1, 1) := by decide +kernel
theorem dJ9_max_7cf53_10 : decode cJ9_max_7cf53 10 = .ok (.ireturn, 1) := by decide +kernel
theorem dJ9_min_7cf53_0 : decode cJ9_min_7cf53 0 = .ok (.iload_n 0, 1) := by decide +kernel
theorem dJ9_min_7cf53_1 : decode cJ9_min_7cf53 1 = .ok (.iload_n 1, 1) := by decide +kernel
theorem dJ9_min_7cf53_2 : decode cJ9_min_7cf53 2 = .ok (.if_icmp .gt 7, 3) := by decide +kernel
theorem dJ9_min_7cf53_5 : decode cJ9_min_7cf53 5 = .ok (.iload_n 0, 1) := by decide +kernel
theorem dJ9_min_7cf53_6 : decode cJ9_min_7cf53 6 = .ok (.goto 4, 3) := by decide +kernel
theorem dJ9_min_7cf53_9 : decode cJ9_min_7cf53 9 = .ok (.iload_n 1, 1) := by decide +kernel
theorem dJ9_min_7cf53_10 : decode cJ9_min_7cf53 10 = .ok (.ireturn, 1) := by decide +kernel
theorem dL_box_0 : decode cL_box 0 = .ok (.aload_n 2, 1) := by decide +kernel
theorem dL_box_1 : decode cL_box 1 = .ok (.iconst 0, 1) := by decide +kernel
theorem dL_box_2 : decode cL_box 2 = .ok (.aload_n 0, 1) := by decide +kernel
theorem dL_box_3 : decode cL_box 3 = .ok (.iload_n 1, 1) := by decide +kernel
theorem dL_box_4 : decode cL_box 4 = .ok (.invokevirtual 7, 3) := by decide +kernel
theorem dL_box_7 : decode cL_box 7 = .ok (.i2l, 1) := by decide +kernel
theorem dL_box_8 : decode cL_box 8 = .ok (.lastore, 1) := by decide +kernel
theorem dL_box_9 : decode cL_box 9 = .ok (.goto 6, 3) := by decide +kernel
theorem dL_box_12 : decode cL_box 12 = .ok (.astore_n 3, 1) := by decide +kernel
theorem dL_box_13 : decode cL_box 13 = .ok (.iconst 1, 1) := by decide +kernel
theorem dL_box_14 : decode cL_box 14 = .ok (.ireturn, 1) := by decide +kernel
theorem dL_box_15 : decode cL_box 15 = .ok (.iconst 0, 1) := by decide +kernel
theorem dL_box_16 : decode cL_box 16 = .ok (.ireturn, 1) := by decide +kernel
theorem dL_net_0 : decode cL_net 0 = .ok (.aload_n 3, 1) := by decide +kernel
theorem dL_net_1 : decode cL_net 1 = .ok (.iconst 0, 1) := by decide +kernel
theorem dL_net_2 : decode cL_net 2 = .ok (.aload_n 0, 1) := by decide +kernel
theorem dL_net_3 : decode cL_net 3 = .ok (.iload_n 1, 1) := by decide +kernel
theorem dL_net_4 : decode cL_net 4 = .ok (.iload_n 2, 1) := by decide +kernel
theorem dL_net_5 : decode cL_net 5 = .ok (.invokevirtual 15, 3) := by decide +kernel
theorem dL_net_8 : decode cL_net 8 = .ok (.i2l, 1) := by decide +kernel
theorem dL_net_9 : decode cL_net 9 = .ok (.lastore, 1) := by decide +kernel
theorem dL_net_10 : decode cL_net 10 = .ok (.goto 11, 3) := by decide +kernel
theorem dL_net_13 : decode cL_net 13 = .ok (.astore 4, 2) := by decide +kernel
theorem dL_net_15 : decode cL_net 15 = .ok (.iconst 1, 1) := by decide +kernel
theorem dL_net_16 : decode cL_net 16 = .ok (.ireturn, 1) := by decide +kernel
theorem dL_net_17 : decode cL_net 17 = .ok (.astore 4, 2) := by decide +kernel
theorem dL_net_19 : decode cL_net 19 = .ok (.iconst 2, 1) := by decide +kernel
theorem dL_net_20 : decode cL_net 20 = .ok (.ireturn, 1) := by decide +kernel
theorem dL_net_21 : decode cL_net 21 = .ok (.iconst 0, 1) := by decide +kernel
theorem dL_net_22 : decode cL_net 22 = .ok (.ireturn, 1) := by decide +kernel
theorem dL_join_0 : decode cL_join 0 = .ok (.aload_n 3, 1) := by decide +kernel
theorem dL_join_1 : decode cL_join 1 = .ok (.iconst 0, 1) := by decide +kernel
theorem dL_join_2 : decode cL_join 2 = .ok (.aload_n 0, 1) := by decide +kernel
theorem dL_join_3 : decode cL_join 3 = .ok (.iload_n 1, 1) := by decide +kernel
theorem dL_join_4 : decode cL_join 4 = .ok (.iload_n 2, 1) := by decide +kernel
theorem dL_join_5 : decode cL_join 5 = .ok (.invokevirtual 21, 3) := by decide +kernel
theorem dL_join_8 : decode cL_join 8 = .ok (.i2l, 1) := by decide +kernel
theorem dL_join_9 : decode cL_join 9 = .ok (.lastore, 1) := by decide +kernel
theorem dL_join_10 : decode cL_join 10 = .ok (.goto 11, 3) := by decide +kernel
theorem dL_join_13 : decode cL_join 13 = .ok (.astore 4, 2) := by decide +kernel
theorem dL_join_15 : decode cL_join 15 = .ok (.iconst 1, 1) := by decide +kernel
theorem dL_join_16 : decode cL_join 16 = .ok (.ireturn, 1) := by decide +kernel
theorem dL_join_17 : decode cL_join 17 = .ok (.astore 4, 2) := by decide +kernel
theorem dL_join_19 : decode cL_join 19 = .ok (.iconst 2, 1) := by decide +kernel
theorem dL_join_20 : decode cL_join 20 = .ok (.ireturn, 1) := by decide +kernel
theorem dL_join_21 : decode cL_join 21 = .ok (.iconst 0, 1) := by decide +kernel
theorem dL_join_22 : decode cL_join 22 = .ok (.ireturn, 1) := by decide +kernel
theorem dL_cost_0 : decode cL_cost 0 = .ok (.aload 4, 2) := by decide +kernel
theorem dL_cost_2 : decode cL_cost 2 = .ok (.iconst 0, 1) := by decide +kernel
theorem dL_cost_3 : decode cL_cost 3 = .ok (.aload_n 0, 1) := by decide +kernel
theorem dL_cost_4 : decode cL_cost 4 = .ok (.iload_n 1, 1) := by decide +kernel
theorem dL_cost_5 : decode cL_cost 5 = .ok (.iload_n 2, 1) := by decide +kernel
theorem dL_cost_6 : decode cL_cost 6 = .ok (.iload_n 3, 1) := by decide +kernel
theorem dL_cost_7 : decode cL_cost 7 = .ok (.invokevirtual 24, 3) := by decide +kernel
theorem dL_cost_10 : decode cL_cost 10 = .ok (.i2l, 1) := by decide +kernel
theorem dL_cost_11 : decode cL_cost 11 = .ok (.lastore, 1) := by decide +kernel
theorem dL_cost_12 : decode cL_cost 12 = .ok (.goto 7, 3) := by decide +kernel
theorem dL_cost_15 : decode cL_cost 15 = .ok (.astore 5, 2) := by decide +kernel
theorem dL_cost_17 : decode cL_cost 17 = .ok (.iconst 1, 1) := by decide +kernel
theorem dL_cost_18 : decode cL_cost 18 = .ok (.ireturn, 1) := by decide +kernel
theorem dL_cost_19 : decode cL_cost 19 = .ok (.iconst 0, 1) := by decide +kernel
theorem dL_cost_20 : decode cL_cost 20 = .ok (.ireturn, 1) := by decide +kernel
theorem dL_link_0 : decode cL_link 0 = .ok (.aload_n 3, 1) := by decide +kernel
theorem dL_link_1 : decode cL_link 1 = .ok (.iconst 0, 1) := by decide +kernel
theorem dL_link_2 : decode cL_link 2 = .ok (.aload_n 0, 1) := by decide +kernel
theorem dL_link_3 : decode cL_link 3 = .ok (.iload_n 1, 1) := by decide +kernel
theorem dL_link_4 : decode cL_link 4 = .ok (.iload_n 2, 1) := by decide +kernel
theorem dL_link_5 : decode cL_link 5 = .ok (.invokevirtual 28, 3) := by decide +kernel
theorem dL_link_8 : decode cL_link 8 = .ok (.ifCond .eq 7, 3) := by decide +kernel
theorem dL_link_11 : decode cL_link 11 = .ok (.lconst 1, 1) := by decide +kernel
theorem dL_link_12 : decode cL_link 12 = .ok (.goto 4, 3) := by decide +kernel
theorem dL_link_15 : decode cL_link 15 = .ok (.lconst 0, 1) := by decide +kernel
theorem dL_link_16 : decode cL_link 16 = .ok (.lastore, 1) := by decide +kernel
theorem dL_link_17 : decode cL_link 17 = .ok (.goto 7, 3) := by decide +kernel
theorem dL_link_20 : decode cL_link 20 = .ok (.astore 4, 2) := by decide +kernel
theorem dL_link_22 : decode cL_link 22 = .ok (.iconst 1, 1) := by decide +kernel
theorem dL_link_23 : decode cL_link 23 = .ok (.ireturn, 1) := by decide +kernel
theorem dL_link_24 : decode cL_link 24 = .ok (.iconst 0, 1) := by decide +kernel
theorem dL_link_25 : decode cL_link 25 = .ok (.ireturn, 1) := by decide +kernel
theorem dL_fates_0 : decode cL_fates 0 = .ok (.aload 5, 2) := by decide +kernel
theorem dL_fates_2 : decode cL_fates 2 = .ok (.iconst 0, 1) := by decide +kernel
theorem dL_fates_3 : decode cL_fates 3 = .ok (.aload_n 0, 1) := by decide +kernel
theorem dL_fates_4 : decode cL_fates 4 = .ok (.iload_n 1, 1) := by decide +kernel
theorem dL_fates_5 : decode cL_fates 5 = .ok (.lload_n 2, 1) := by decide +kernel
theorem dL_fates_6 : decode cL_fates 6 = .ok (.iload 4, 2) := by decide +kernel
theorem dL_fates_8 : decode cL_fates 8 = .ok (.invokevirtual 32, 3) := by decide +kernel
theorem dL_fates_11 : decode cL_fates 11 = .ok (.i2l, 1) := by decide +kernel
theorem dL_fates_12 : decode cL_fates 12 = .ok (.lastore, 1) := by decide +kernel
theorem dL_fates_13 : decode cL_fates 13 = .ok (.goto 11, 3) := by decide +kernel
theorem dL_fates_16 : decode cL_fates 16 = .ok (.astore 6, 2) := by decide +kernel
theorem dL_fates_18 : decode cL_fates 18 = .ok (.iconst 1, 1) := by decide +kernel
theorem dL_fates_19 : decode cL_fates 19 = .ok (.ireturn, 1) := by decide +kernel
theorem dL_fates_20 : decode cL_fates 20 = .ok (.astore 6, 2) := by decide +kernel
theorem dL_fates_22 : decode cL_fates 22 = .ok (.iconst 2, 1) := by decide +kernel
theorem dL_fates_23 : decode cL_fates 23 = .ok (.ireturn, 1) := by decide +kernel
theorem dL_fates_24 : decode cL_fates 24 = .ok (.iconst 0, 1) := by decide +kernel
theorem dL_fates_25 : decode cL_fates 25 = .ok (.ireturn, 1) := by decide +kernel
theorem dL_run_0 : decode cL_run 0 = .ok (.aload_n 2, 1) := by decide +kernel
theorem dL_run_1 : decode cL_run 1 = .ok (.iconst 0, 1) := by decide +kernel
theorem dL_run_2 : decode cL_run 2 = .ok (.aload_n 0, 1) := by decide +kernel
theorem dL_run_3 : decode cL_run 3 = .ok (.iload_n 1, 1) := by decide +kernel
theorem dL_run_4 : decode cL_run 4 = .ok (.invokevirtual 36, 3) := by decide +kernel
theorem dL_run_7 : decode cL_run 7 = .ok (.i2l, 1) := by decide +kernel
theorem dL_run_8 : decode cL_run 8 = .ok (.lastore, 1) := by decide +kernel
theorem dL_run_9 : decode cL_run 9 = .ok (.goto 9, 3) := by decide +kernel
theorem dL_run_12 : decode cL_run 12 = .ok (.astore_n 3, 1) := by decide +kernel
theorem dL_run_13 : decode cL_run 13 = .ok (.iconst 1, 1) := by decide +kernel
theorem dL_run_14 : decode cL_run 14 = .ok (.ireturn, 1) := by decide +kernel
theorem dL_run_15 : decode cL_run 15 = .ok (.astore_n 3, 1) := by decide +kernel
theorem dL_run_16 : decode cL_run 16 = .ok (.iconst 2, 1) := by decide +kernel
theorem dL_run_17 : decode cL_run 17 = .ok (.ireturn, 1) := by decide +kernel
theorem dL_run_18 : decode cL_run 18 = .ok (.iconst 0, 1) := by decide +kernel
theorem dL_run_19 : decode cL_run 19 = .ok (.ireturn, 1) := by decide +kernel
theorem dL_listen_0 : decode cL_listen 0 = .ok (.aload 4, 2) := by decide +kernel
theorem dL_listen_2 : decode cL_listen 2 = .ok (.iconst 0, 1) := by decide +kernel
theorem dL_listen_3 : decode cL_listen 3 = .ok (.aload_n 0, 1) := by decide +kernel
theorem dL_listen_4 : decode cL_listen 4 = .ok (.iload_n 1, 1) := by decide +kernel
theorem dL_listen_5 : decode cL_listen 5 = .ok (.iload_n 2, 1) := by decide +kernel
theorem dL_listen_6 : decode cL_listen 6 = .ok (.iload_n 3, 1) := by decide +kernel
theorem dL_listen_7 : decode cL_listen 7 = .ok (.invokevirtual 40, 3) := by decide +kernel
theorem dL_listen_10 : decode cL_listen 10 = .ok (.i2l, 1) := by decide +kernel
theorem dL_listen_11 : decode cL_listen 11 = .ok (.lastore, 1) := by decide +kernel
theorem dL_listen_12 : decode cL_listen 12 = .ok (.goto 11, 3) := by decide +kernel
theorem dL_listen_15 : decode cL_listen 15 = .ok (.astore 5, 2) := by decide +kernel
theorem dL_listen_17 : decode cL_listen 17 = .ok (.iconst 1, 1) := by decide +kernel
theorem dL_listen_18 : decode cL_listen 18 = .ok (.ireturn, 1) := by decide +kernel
theorem dL_listen_19 : decode cL_listen 19 = .ok (.astore 5, 2) := by decide +kernel
theorem dL_listen_21 : decode cL_listen 21 = .ok (.iconst 2, 1) := by decide +kernel
theorem dL_listen_22 : decode cL_listen 22 = .ok (.ireturn, 1) := by decide +kernel
theorem dL_listen_23 : decode cL_listen 23 = .ok (.iconst 0, 1) := by decide +kernel
theorem dL_listen_24 : decode cL_listen 24 = .ok (.ireturn, 1) := by decide +kernel
theorem dL_open_0 : decode cL_open 0 = .ok (.aload 4, 2) := by decide +kernel
theorem dL_open_2 : decode cL_open 2 = .ok (.iconst 0, 1) := by decide +kernel
theorem dL_open_3 : decode cL_open 3 = .ok (.aload_n 0, 1) := by decide +kernel
theorem dL_open_4 : decode cL_open 4 = .ok (.iload_n 1, 1) := by decide +kernel
theorem dL_open_5 : decode cL_open 5 = .ok (.iload_n 2, 1) := by decide +kernel
theorem dL_open_6 : decode cL_open 6 = .ok (.iload_n 3, 1) := by decide +kernel
theorem dL_open_7 : decode cL_open 7 = .ok (.invokevirtual 43, 3) := by decide +kernel
theorem dL_open_10 : decode cL_open 10 = .ok (.i2l, 1) := by decide +kernel
theorem dL_open_11 : decode cL_open 11 = .ok (.lastore, 1) := by decide +kernel
theorem dL_open_12 : decode cL_open 12 = .ok (.goto 11, 3) := by decide +kernel
theorem dL_open_15 : decode cL_open 15 = .ok (.astore 5, 2) := by decide +kernel
theorem dL_open_17 : decode cL_open 17 = .ok (.iconst 1, 1) := by decide +kernel
theorem dL_open_18 : decode cL_open 18 = .ok (.ireturn, 1) := by decide +kernel
theorem dL_open_19 : decode cL_open 19 = .ok (.astore 5, 2) := by decide +kernel
theorem dL_open_21 : decode cL_open 21 = .ok (.iconst 2, 1) := by decide +kernel
theorem dL_open_22 : decode cL_open 22 = .ok (.ireturn, 1) := by decide +kernel
theorem dL_open_23 : decode cL_open 23 = .ok (.iconst 0, 1) := by decide +kernel
theorem dL_open_24 : decode cL_open 24 = .ok (.ireturn, 1) := by decide +kernel
theorem dL_accept_0 : decode cL_accept 0 = .ok (.aload_n 3, 1) := by decide +kernel
theorem dL_accept_1 : decode cL_accept 1 = .ok (.iconst 0, 1) := by decide +kernel
theorem dL_accept_2 : decode cL_accept 2 = .ok (.aload_n 0, 1) := by decide +kernel
theorem dL_accept_3 : decode cL_accept 3 = .ok (.iload_n 1, 1) := by decide +kernel
theorem dL_accept_4 : decode cL_accept 4 = .ok (.iload_n 2, 1) := by decide +kernel
theorem dL_accept_5 : decode cL_accept 5 = .ok (.invokevirtual 46, 3) := by decide +kernel
theorem dL_accept_8 : decode cL_accept 8 = .ok (.i2l, 1) := by decide +kernel
theorem dL_accept_9 : decode cL_accept 9 = .ok (.lastore, 1) := by decide +kernel
theorem dL_accept_10 : decode cL_accept 10 = .ok (.goto 11, 3) := by decide +kernel
theorem dL_accept_13 : decode cL_accept 13 = .ok (.astore 4, 2) := by decide +kernel
theorem dL_accept_15 : decode cL_accept 15 = .ok (.iconst 1, 1) := by decide +kernel
theorem dL_accept_16 : decode cL_accept 16 = .ok (.ireturn, 1) := by decide +kernel
theorem dL_accept_17 : decode cL_accept 17 = .ok (.astore 4, 2) := by decide +kernel
theorem dL_accept_19 : decode cL_accept 19 = .ok (.iconst 2, 1) := by decide +kernel
theorem dL_accept_20 : decode cL_accept 20 = .ok (.ireturn, 1) := by decide +kernel
theorem dL_accept_21 : decode cL_accept 21 = .ok (.iconst 0, 1) := by decide +kernel
theorem dL_accept_22 : decode cL_accept 22 = .ok (.ireturn, 1) := by decide +kernel
theorem dL_write_0 : decode cL_write 0 = .ok (.aload 6, 2) := by decide +kernel
theorem dL_write_2 : decode cL_write 2 = .ok (.iconst 0, 1) := by decide +kernel
theorem dL_write_3 : decode cL_write 3 = .ok (.aload_n 0, 1) := by decide +kernel
theorem dL_write_4 : decode cL_write 4 = .ok (.iload_n 1, 1) := by decide +kernel
theorem dL_write_5 : decode cL_write 5 = .ok (.iload_n 2, 1) := by decide +kernel
theorem dL_write_6 : decode cL_write 6 = .ok (.lload_n 3, 1) := by decide +kernel
theorem dL_write_7 : decode cL_write 7 = .ok (.iload 5, 2) := by decide +kernel
theorem dL_write_9 : decode cL_write 9 = .ok (.invokevirtual 49, 3) := by decide +kernel
theorem dL_write_12 : decode cL_write 12 = .ok (.i2l, 1) := by decide +kernel
theorem dL_write_13 : decode cL_write 13 = .ok (.lastore, 1) := by decide +kernel
theorem dL_write_14 : decode cL_write 14 = .ok (.goto 11, 3) := by decide +kernel
theorem dL_write_17 : decode cL_write 17 = .ok (.astore 7, 2) := by decide +kernel
theorem dL_write_19 : decode cL_write 19 = .ok (.iconst 1, 1) := by decide +kernel
theorem dL_write_20 : decode cL_write 20 = .ok (.ireturn, 1) := by decide +kernel
theorem dL_write_21 : decode cL_write 21 = .ok (.astore 7, 2) := by decide +kernel
theorem dL_write_23 : decode cL_write 23 = .ok (.iconst 2, 1) := by decide +kernel
theorem dL_write_24 : decode cL_write 24 = .ok (.ireturn, 1) := by decide +kernel
theorem dL_write_25 : decode cL_write 25 = .ok (.iconst 0, 1) := by decide +kernel
theorem dL_write_26 : decode cL_write 26 = .ok (.ireturn, 1) := by decide +kernel
theorem dL_fill_0 : decode cL_fill 0 = .ok (.aload 6, 2) := by decide +kernel
theorem dL_fill_2 : decode cL_fill 2 = .ok (.iconst 0, 1) := by decide +kernel
theorem dL_fill_3 : decode cL_fill 3 = .ok (.aload_n 0, 1) := by decide +kernel
theorem dL_fill_4 : decode cL_fill 4 = .ok (.iload_n 1, 1) := by decide +kernel
theorem dL_fill_5 : decode cL_fill 5 = .ok (.iload_n 2, 1) := by decide +kernel
theorem dL_fill_6 : decode cL_fill 6 = .ok (.iload_n 3, 1) := by decide +kernel
theorem dL_fill_7 : decode cL_fill 7 = .ok (.iload 4, 2) := by decide +kernel
theorem dL_fill_9 : decode cL_fill 9 = .ok (.iload 5, 2) := by decide +kernel
theorem dL_fill_11 : decode cL_fill 11 = .ok (.invokevirtual 53, 3) := by decide +kernel
theorem dL_fill_14 : decode cL_fill 14 = .ok (.i2l, 1) := by decide +kernel
theorem dL_fill_15 : decode cL_fill 15 = .ok (.lastore, 1) := by decide +kernel
theorem dL_fill_16 : decode cL_fill 16 = .ok (.goto 11, 3) := by decide +kernel
theorem dL_fill_19 : decode cL_fill 19 = .ok (.astore 7, 2) := by decide +kernel
theorem dL_fill_21 : decode cL_fill 21 = .ok (.iconst 1, 1) := by decide +kernel
theorem dL_fill_22 : decode cL_fill 22 = .ok (.ireturn, 1) := by decide +kernel
theorem dL_fill_23 : decode cL_fill 23 = .ok (.astore 7, 2) := by decide +kernel
theorem dL_fill_25 : decode cL_fill 25 = .ok (.iconst 2, 1) := by decide +kernel
theorem dL_fill_26 : decode cL_fill 26 = .ok (.ireturn, 1) := by decide +kernel
theorem dL_fill_27 : decode cL_fill 27 = .ok (.iconst 0, 1) := by decide +kernel
theorem dL_fill_28 : decode cL_fill 28 = .ok (.ireturn, 1) := by decide +kernel
theorem dL_read_0 : decode cL_read 0 = .ok (.aload_n 3, 1) := by decide +kernel
theorem dL_read_1 : decode cL_read 1 = .ok (.iconst 0, 1) := by decide +kernel
theorem dL_read_2 : decode cL_read 2 = .ok (.aload_n 0, 1) := by decide +kernel
theorem dL_read_3 : decode cL_read 3 = .ok (.iload_n 1, 1) := by decide +kernel
theorem dL_read_4 : decode cL_read 4 = .ok (.iload_n 2, 1) := by decide +kernel
theorem dL_read_5 : decode cL_read 5 = .ok (.invokevirtual 57, 3) := by decide +kernel
theorem dL_read_8 : decode cL_read 8 = .ok (.i2l, 1) := by decide +kernel
theorem dL_read_9 : decode cL_read 9 = .ok (.lastore, 1) := by decide +kernel
theorem dL_read_10 : decode cL_read 10 = .ok (.goto 11, 3) := by decide +kernel
theorem dL_read_13 : decode cL_read 13 = .ok (.astore 4, 2) := by decide +kernel
theorem dL_read_15 : decode cL_read 15 = .ok (.iconst 1, 1) := by decide +kernel
theorem dL_read_16 : decode cL_read 16 = .ok (.ireturn, 1) := by decide +kernel
theorem dL_read_17 : decode cL_read 17 = .ok (.astore 4, 2) := by decide +kernel
theorem dL_read_19 : decode cL_read 19 = .ok (.iconst 2, 1) := by decide +kernel
theorem dL_read_20 : decode cL_read 20 = .ok (.ireturn, 1) := by decide +kernel
theorem dL_read_21 : decode cL_read 21 = .ok (.iconst 0, 1) := by decide +kernel
theorem dL_read_22 : decode cL_read 22 = .ok (.ireturn, 1) := by decide +kernel
theorem dL_readAll_0 : decode cL_readAll 0 = .ok (.aload 4, 2) := by decide +kernel
theorem dL_readAll_2 : decode cL_readAll 2 = .ok (.iconst 0, 1) := by decide +kernel
theorem dL_readAll_3 : decode cL_readAll 3 = .ok (.aload_n 0, 1) := by decide +kernel
theorem dL_readAll_4 : decode cL_readAll 4 = .ok (.iload_n 1, 1) := by decide +kernel
theorem dL_readAll_5 : decode cL_readAll 5 = .ok (.iload_n 2, 1) := by decide +kernel
theorem dL_readAll_6 : decode cL_readAll 6 = .ok (.iload_n 3, 1) := by decide +kernel
theorem dL_readAll_7 : decode cL_readAll 7 = .ok (.invokevirtual 60, 3) := by decide +kernel
theorem dL_readAll_10 : decode cL_readAll 10 = .ok (.i2l, 1) := by decide +kernel
theorem dL_readAll_11 : decode cL_readAll 11 = .ok (.lastore, 1) := by decide +kernel
theorem dL_readAll_12 : decode cL_readAll 12 = .ok (.goto 11, 3) := by decide +kernel
theorem dL_readAll_15 : decode cL_readAll 15 = .ok (.astore 5, 2) := by decide +kernel
theorem dL_readAll_17 : decode cL_readAll 17 = .ok (.iconst 1, 1) := by decide +kernel
theorem dL_readAll_18 : decode cL_readAll 18 = .ok (.ireturn, 1) := by decide +kernel
theorem dL_readAll_19 : decode cL_readAll 19 = .ok (.astore 5, 2) := by decide +kernel
theorem dL_readAll_21 : decode cL_readAll 21 = .ok (.iconst 2, 1) := by decide +kernel
theorem dL_readAll_22 : decode cL_readAll 22 = .ok (.ireturn, 1) := by decide +kernel
theorem dL_readAll_23 : decode cL_readAll 23 = .ok (.iconst 0, 1) := by decide +kernel
theorem dL_readAll_24 : decode cL_readAll 24 = .ok (.ireturn, 1) := by decide +kernel
theorem dL_close_0 : decode cL_close 0 = .ok (.aload_n 0, 1) := by decide +kernel
theorem dL_close_1 : decode cL_close 1 = .ok (.iload_n 1, 1) := by decide +kernel
theorem dL_close_2 : decode cL_close 2 = .ok (.iload_n 2, 1) := by decide +kernel
theorem dL_close_3 : decode cL_close 3 = .ok (.invokevirtual 63, 3) := by decide +kernel
theorem dL_close_6 : decode cL_close 6 = .ok (.goto 9, 3) := by decide +kernel
theorem dL_close_9 : decode cL_close 9 = .ok (.astore_n 3, 1) := by decide +kernel
theorem dL_close_10 : decode cL_close 10 = .ok (.iconst 1, 1) := by decide +kernel
theorem dL_close_11 : decode cL_close 11 = .ok (.ireturn, 1) := by decide +kernel
theorem dL_close_12 : decode cL_close 12 = .ok (.astore_n 3, 1) := by decide +kernel
theorem dL_close_13 : decode cL_close 13 = .ok (.iconst 2, 1) := by decide +kernel
theorem dL_close_14 : decode cL_close 14 = .ok (.ireturn, 1) := by decide +kernel
theorem dL_close_15 : decode cL_close 15 = .ok (.iconst 0, 1) := by decide +kernel
theorem dL_close_16 : decode cL_close 16 = .ok (.ireturn, 1) := by decide +kernel
theorem dL_abort_0 : decode cL_abort 0 = .ok (.aload_n 0, 1) := by decide +kernel
theorem dL_abort_1 : decode cL_abort 1 = .ok (.iload_n 1, 1) := by decide +kernel
theorem dL_abort_2 : decode cL_abort 2 = .ok (.iload_n 2, 1) := by decide +kernel
theorem dL_abort_3 : decode cL_abort 3 = .ok (.invokevirtual 67, 3) := by decide +kernel
theorem dL_abort_6 : decode cL_abort 6 = .ok (.goto 9, 3) := by decide +kernel
theorem dL_abort_9 : decode cL_abort 9 = .ok (.astore_n 3, 1) := by decide +kernel
theorem dL_abort_10 : decode cL_abort 10 = .ok (.iconst 1, 1) := by decide +kernel
theorem dL_abort_11 : decode cL_abort 11 = .ok (.ireturn, 1) := by decide +kernel
theorem dL_abort_12 : decode cL_abort 12 = .ok (.astore_n 3, 1) := by decide +kernel
theorem dL_abort_13 : decode cL_abort 13 = .ok (.iconst 2, 1) := by decide +kernel
theorem dL_abort_14 : decode cL_abort 14 = .ok (.ireturn, 1) := by decide +kernel
theorem dL_abort_15 : decode cL_abort 15 = .ok (.iconst 0, 1) := by decide +kernel
theorem dL_abort_16 : decode cL_abort 16 = .ok (.ireturn, 1) := by decide +kernel
theorem dL_door_0 : decode cL_door 0 = .ok (.aload 4, 2) := by decide +kernel
theorem dL_door_2 : decode cL_door 2 = .ok (.iconst 0, 1) := by decide +kernel
theorem dL_door_3 : decode cL_door 3 = .ok (.aload_n 0, 1) := by decide +kernel
theorem dL_door_4 : decode cL_door 4 = .ok (.iload_n 1, 1) := by decide +kernel
theorem dL_door_5 : decode cL_door 5 = .ok (.iload_n 2, 1) := by decide +kernel
theorem dL_door_6 : decode cL_door 6 = .ok (.iload_n 3, 1) := by decide +kernel
theorem dL_door_7 : decode cL_door 7 = .ok (.invokevirtual 70, 3) := by decide +kernel
theorem dL_door_10 : decode cL_door 10 = .ok (.i2l, 1) := by decide +kernel
theorem dL_door_11 : decode cL_door 11 = .ok (.lastore, 1) := by decide +kernel
theorem dL_door_12 : decode cL_door 12 = .ok (.goto 7, 3) := by decide +kernel
theorem dL_door_15 : decode cL_door 15 = .ok (.astore 5, 2) := by decide +kernel
theorem dL_door_17 : decode cL_door 17 = .ok (.iconst 1, 1) := by decide +kernel
theorem dL_door_18 : decode cL_door 18 = .ok (.ireturn, 1) := by decide +kernel
theorem dL_door_19 : decode cL_door 19 = .ok (.iconst 0, 1) := by decide +kernel
theorem dL_door_20 : decode cL_door 20 = .ok (.ireturn, 1) := by decide +kernel
theorem dL_way_0 : decode cL_way 0 = .ok (.aload 4, 2) := by decide +kernel
theorem dL_way_2 : decode cL_way 2 = .ok (.iconst 0, 1) := by decide +kernel
theorem dL_way_3 : decode cL_way 3 = .ok (.aload_n 0, 1) := by decide +kernel
theorem dL_way_4 : decode cL_way 4 = .ok (.iload_n 1, 1) := by decide +kernel
theorem dL_way_5 : decode cL_way 5 = .ok (.iload_n 2, 1) := by decide +kernel
theorem dL_way_6 : decode cL_way 6 = .ok (.iload_n 3, 1) := by decide +kernel
theorem dL_way_7 : decode cL_way 7 = .ok (.invokevirtual 73, 3) := by decide +kernel
theorem dL_way_10 : decode cL_way 10 = .ok (.i2l, 1) := by decide +kernel
theorem dL_way_11 : decode cL_way 11 = .ok (.lastore, 1) := by decide +kernel
theorem dL_way_12 : decode cL_way 12 = .ok (.goto 7, 3) := by decide +kernel
theorem dL_way_15 : decode cL_way 15 = .ok (.astore 5, 2) := by decide +kernel
theorem dL_way_17 : decode cL_way 17 = .ok (.iconst 1, 1) := by decide +kernel
theorem dL_way_18 : decode cL_way 18 = .ok (.ireturn, 1) := by decide +kernel
theorem dL_way_19 : decode cL_way 19 = .ok (.iconst 0, 1) := by decide +kernel
theorem dL_way_20 : decode cL_way 20 = .ok (.ireturn, 1) := by decide +kernel
theorem dL_friends_0 : decode cL_friends 0 = .ok (.aload 4, 2) := by decide +kernel
theorem dL_friends_2 : decode cL_friends 2 = .ok (.iconst 0, 1) := by decide +kernel
theorem dL_friends_3 : decode cL_friends 3 = .ok (.aload_n 0, 1) := by decide +kernel
theorem dL_friends_4 : decode cL_friends 4 = .ok (.iload_n 1, 1) := by decide +kernel
theorem dL_friends_5 : decode cL_friends 5 = .ok (.iload_n 2, 1) := by decide +kernel
theorem dL_friends_6 : decode cL_friends 6 = .ok (.iload_n 3, 1) := by decide +kernel
theorem dL_friends_7 : decode cL_friends 7 = .ok (.invokevirtual 76, 3) := by decide +kernel
theorem dL_friends_10 : decode cL_friends 10 = .ok (.ifCond .eq 7, 3) := by decide +kernel
theorem dL_friends_13 : decode cL_friends 13 = .ok (.lconst 1, 1) := by decide +kernel
theorem dL_friends_14 : decode cL_friends 14 = .ok (.goto 4, 3) := by decide +kernel
theorem dL_friends_17 : decode cL_friends 17 = .ok (.lconst 0, 1) := by decide +kernel
theorem dL_friends_18 : decode cL_friends 18 = .ok (.lastore, 1) := by decide +kernel
theorem dL_friends_19 : decode cL_friends 19 = .ok (.goto 7, 3) := by decide +kernel
theorem dL_friends_22 : decode cL_friends 22 = .ok (.astore 5, 2) := by decide +kernel
theorem dL_friends_24 : decode cL_friends 24 = .ok (.iconst 1, 1) := by decide +kernel
theorem dL_friends_25 : decode cL_friends 25 = .ok (.ireturn, 1) := by decide +kernel
theorem dL_friends_26 : decode cL_friends 26 = .ok (.iconst 0, 1) := by decide +kernel
theorem dL_friends_27 : decode cL_friends 27 = .ok (.ireturn, 1) := by decide +kernel
theorem dL_advert_0 : decode cL_advert 0 = .ok (.aload_n 3, 1) := by decide +kernel
theorem dL_advert_1 : decode cL_advert 1 = .ok (.iconst 0, 1) := by decide +kernel
theorem dL_advert_2 : decode cL_advert 2 = .ok (.aload_n 0, 1) := by decide +kernel
theorem dL_advert_3 : decode cL_advert 3 = .ok (.iload_n 1, 1) := by decide +kernel
theorem dL_advert_4 : decode cL_advert 4 = .ok (.iload_n 2, 1) := by decide +kernel
theorem dL_advert_5 : decode cL_advert 5 = .ok (.invokevirtual 80, 3) := by decide +kernel
theorem dL_advert_8 : decode cL_advert 8 = .ok (.i2l, 1) := by decide +kernel
theorem dL_advert_9 : decode cL_advert 9 = .ok (.lastore, 1) := by decide +kernel
theorem dL_advert_10 : decode cL_advert 10 = .ok (.goto 7, 3) := by decide +kernel
theorem dL_advert_13 : decode cL_advert 13 = .ok (.astore 4, 2) := by decide +kernel
theorem dL_advert_15 : decode cL_advert 15 = .ok (.iconst 1, 1) := by decide +kernel
theorem dL_advert_16 : decode cL_advert 16 = .ok (.ireturn, 1) := by decide +kernel
theorem dL_advert_17 : decode cL_advert 17 = .ok (.iconst 0, 1) := by decide +kernel
theorem dL_advert_18 : decode cL_advert 18 = .ok (.ireturn, 1) := by decide +kernel
theorem dL_count_0 : decode cL_count 0 = .ok (.aload_n 3, 1) := by decide +kernel
theorem dL_count_1 : decode cL_count 1 = .ok (.iconst 0, 1) := by decide +kernel
theorem dL_count_2 : decode cL_count 2 = .ok (.aload_n 0, 1) := by decide +kernel
theorem dL_count_3 : decode cL_count 3 = .ok (.iload_n 1, 1) := by decide +kernel
theorem dL_count_4 : decode cL_count 4 = .ok (.iload_n 2, 1) := by decide +kernel
theorem dL_count_5 : decode cL_count 5 = .ok (.invokevirtual 83, 3) := by decide +kernel
theorem dL_count_8 : decode cL_count 8 = .ok (.i2l, 1) := by decide +kernel
theorem dL_count_9 : decode cL_count 9 = .ok (.lastore, 1) := by decide +kernel
theorem dL_count_10 : decode cL_count 10 = .ok (.goto 7, 3) := by decide +kernel
theorem dL_count_13 : decode cL_count 13 = .ok (.astore 4, 2) := by decide +kernel
theorem dL_count_15 : decode cL_count 15 = .ok (.iconst 1, 1) := by decide +kernel
theorem dL_count_16 : decode cL_count 16 = .ok (.ireturn, 1) := by decide +kernel
theorem dL_count_17 : decode cL_count 17 = .ok (.iconst 0, 1) := by decide +kernel
theorem dL_count_18 : decode cL_count 18 = .ok (.ireturn, 1) := by decide +kernel
theorem dL_shouldCost_0 : decode cL_shouldCost 0 = .ok (.aload_n 3, 1) := by decide +kernel
theorem dL_shouldCost_1 : decode cL_shouldCost 1 = .ok (.iconst 0, 1) := by decide +kernel
theorem dL_shouldCost_2 : decode cL_shouldCost 2 = .ok (.aload_n 0, 1) := by decide +kernel
theorem dL_shouldCost_3 : decode cL_shouldCost 3 = .ok (.iload_n 1, 1) := by decide +kernel
theorem dL_shouldCost_4 : decode cL_shouldCost 4 = .ok (.iload_n 2, 1) := by decide +kernel
theorem dL_shouldCost_5 : decode cL_shouldCost 5 = .ok (.invokevirtual 86, 3) := by decide +kernel
theorem dL_shouldCost_8 : decode cL_shouldCost 8 = .ok (.i2l, 1) := by decide +kernel
theorem dL_shouldCost_9 : decode cL_shouldCost 9 = .ok (.lastore, 1) := by decide +kernel
theorem dL_shouldCost_10 : decode cL_shouldCost 10 = .ok (.goto 7, 3) := by decide +kernel
theorem dL_shouldCost_13 : decode cL_shouldCost 13 = .ok (.astore 4, 2) := by decide +kernel
theorem dL_shouldCost_15 : decode cL_shouldCost 15 = .ok (.iconst 1, 1) := by decide +kernel
theorem dL_shouldCost_16 : decode cL_shouldCost 16 = .ok (.ireturn, 1) := by decide +kernel
theorem dL_shouldCost_17 : decode cL_shouldCost 17 = .ok (.iconst 0, 1) := by decide +kernel
theorem dL_shouldCost_18 : decode cL_shouldCost 18 = .ok (.ireturn, 1) := by decide +kernel
theorem dL_drain_0 : decode cL_drain 0 = .ok (.aload_n 0, 1) := by decide +kernel
theorem dL_drain_1 : decode cL_drain 1 = .ok (.iload_n 1, 1) := by decide +kernel
theorem dL_drain_2 : decode cL_drain 2 = .ok (.iload_n 2, 1) := by decide +kernel
theorem dL_drain_3 : decode cL_drain 3 = .ok (.iload_n 3, 1) := by decide +kernel
theorem dL_drain_4 : decode cL_drain 4 = .ok (.invokevirtual 89, 3) := by decide +kernel
theorem dL_drain_7 : decode cL_drain 7 = .ok (.goto 11, 3) := by decide +kernel
theorem dL_drain_10 : decode cL_drain 10 = .ok (.astore 4, 2) := by decide +kernel
theorem dL_drain_12 : decode cL_drain 12 = .ok (.iconst 1, 1) := by decide +kernel
theorem dL_drain_13 : decode cL_drain 13 = .ok (.ireturn, 1) := by decide +kernel
theorem dL_drain_14 : decode cL_drain 14 = .ok (.astore 4, 2) := by decide +kernel
theorem dL_drain_16 : decode cL_drain 16 = .ok (.iconst 2, 1) := by decide +kernel
theorem dL_drain_17 : decode cL_drain 17 = .ok (.ireturn, 1) := by decide +kernel
theorem dL_drain_18 : decode cL_drain 18 = .ok (.iconst 0, 1) := by decide +kernel
theorem dL_drain_19 : decode cL_drain 19 = .ok (.ireturn, 1) := by decide +kernel
theorem dL_drained_0 : decode cL_drained 0 = .ok (.aload_n 3, 1) := by decide +kernel
theorem dL_drained_1 : decode cL_drained 1 = .ok (.iconst 0, 1) := by decide +kernel
theorem dL_drained_2 : decode cL_drained 2 = .ok (.aload_n 0, 1) := by decide +kernel
theorem dL_drained_3 : decode cL_drained 3 = .ok (.iload_n 1, 1) := by decide +kernel
theorem dL_drained_4 : decode cL_drained 4 = .ok (.iload_n 2, 1) := by decide +kernel
theorem dL_drained_5 : decode cL_drained 5 = .ok (.invokevirtual 93, 3) := by decide +kernel
theorem dL_drained_8 : decode cL_drained 8 = .ok (.i2l, 1) := by decide +kernel
theorem dL_drained_9 : decode cL_drained 9 = .ok (.lastore, 1) := by decide +kernel
theorem dL_drained_10 : decode cL_drained 10 = .ok (.goto 7, 3) := by decide +kernel
theorem dL_drained_13 : decode cL_drained 13 = .ok (.astore 4, 2) := by decide +kernel
theorem dL_drained_15 : decode cL_drained 15 = .ok (.iconst 1, 1) := by decide +kernel
theorem dL_drained_16 : decode cL_drained 16 = .ok (.ireturn, 1) := by decide +kernel
theorem dL_drained_17 : decode cL_drained 17 = .ok (.iconst 0, 1) := by decide +kernel
theorem dL_drained_18 : decode cL_drained 18 = .ok (.ireturn, 1) := by decide +kernel
theorem dL_law_0 : decode cL_law 0 = .ok (.new 8, 3) := by decide +kernel
theorem dL_law_3 : decode cL_law 3 = .ok (.dup, 1) := by decide +kernel
theorem dL_law_4 : decode cL_law 4 = .ok (.invokespecial 96, 3) := by decide +kernel
theorem dL_law_7 : decode cL_law 7 = .ok (.astore_n 1, 1) := by decide +kernel
theorem dL_law_8 : decode cL_law 8 = .ok (.new 97, 3) := by decide +kernel
theorem dL_law_11 : decode cL_law 11 = .ok (.dup, 1) := by decide +kernel
theorem dL_law_12 : decode cL_law 12 = .ok (.invokespecial 99, 3) := by decide +kernel
theorem dL_law_15 : decode cL_law 15 = .ok (.astore_n 2, 1) := by decide +kernel
theorem dL_law_16 : decode cL_law 16 = .ok (.iconst 1, 1) := by decide +kernel
theorem dL_law_17 : decode cL_law 17 = .ok (.newarray .long, 2) := by decide +kernel
theorem dL_law_19 : decode cL_law 19 = .ok (.astore_n 3, 1) := by decide +kernel
theorem dL_law_20 : decode cL_law 20 = .ok (.iconst 0, 1) := by decide +kernel
theorem dL_law_21 : decode cL_law 21 = .ok (.istore 4, 2) := by decide +kernel
theorem dL_law_23 : decode cL_law 23 = .ok (.iload 4, 2) := by decide +kernel
theorem dL_law_25 : decode cL_law 25 = .ok (.aload_n 0, 1) := by decide +kernel
theorem dL_law_26 : decode cL_law 26 = .ok (.arraylength, 1) := by decide +kernel
theorem dL_law_27 : decode cL_law 27 = .ok (.bipush 6, 2) := by decide +kernel
theorem dL_law_29 : decode cL_law 29 = .ok (.isub, 1) := by decide +kernel
theorem dL_law_30 : decode cL_law 30 = .ok (.if_icmp .gt 2055, 3) := by decide +kernel
theorem dL_law_33 : decode cL_law 33 = .ok (.aload_n 0, 1) := by decide +kernel
theorem dL_law_34 : decode cL_law 34 = .ok (.iload 4, 2) := by decide +kernel
theorem dL_law_36 : decode cL_law 36 = .ok (.iaload, 1) := by decide +kernel
theorem dL_law_37 : decode cL_law 37 = .ok (.bipush 31, 2) := by decide +kernel
theorem dL_law_39 : decode cL_law 39 = .ok (.iand, 1) := by decide +kernel
theorem dL_law_40 : decode cL_law 40 = .ok (.tableswitch 2039 0 28 #[132, 204, 272, 340, 420, 511, 623, 679, 759, 839, 907, 1031, 1135, 1203, 1283, 1331, 1379, 1459, 1539, 1626, 1694, 1762, 1775, 1788, 1856, 1869, 1945, 2013, 2026], 132) := by decide +kernel
theorem dL_law_172 : decode cL_law 172 = .ok (.aload_n 1, 1) := by decide +kernel
theorem dL_law_173 : decode cL_law 173 = .ok (.aload_n 0, 1) := by decide +kernel
theorem dL_law_174 : decode cL_law 174 = .ok (.iload 4, 2) := by decide +kernel
theorem dL_law_176 : decode cL_law 176 = .ok (.iconst 1, 1) := by decide +kernel
theorem dL_law_177 : decode cL_law 177 = .ok (.iadd, 1) := by decide +kernel
theorem dL_law_178 : decode cL_law 178 = .ok (.iaload, 1) := by decide +kernel
theorem dL_law_179 : decode cL_law 179 = .ok (.ifCond .eq 7, 3) := by decide +kernel
theorem dL_law_182 : decode cL_law 182 = .ok (.iconst 1, 1) := by decide +kernel
theorem dL_law_183 : decode cL_law 183 = .ok (.goto 4, 3) := by decide +kernel
theorem dL_law_186 : decode cL_law 186 = .ok (.iconst 0, 1) := by decide +kernel
theorem dL_law_187 : decode cL_law 187 = .ok (.aload_n 3, 1) := by decide +kernel
theorem dL_law_188 : decode cL_law 188 = .ok (.invokestatic 100, 3) := by decide +kernel
theorem dL_law_191 : decode cL_law 191 = .ok (.istore 5, 2) := by decide +kernel
theorem dL_law_193 : decode cL_law 193 = .ok (.aload_n 2, 1) := by decide +kernel
theorem dL_law_194 : decode cL_law 194 = .ok (.aload_n 0, 1) := by decide +kernel
theorem dL_law_195 : decode cL_law 195 = .ok (.iload 4, 2) := by decide +kernel
theorem dL_law_197 : decode cL_law 197 = .ok (.iconst 1, 1) := by decide +kernel
theorem dL_law_198 : decode cL_law 198 = .ok (.iadd, 1) := by decide +kernel
theorem dL_law_199 : decode cL_law 199 = .ok (.iaload, 1) := by decide +kernel
theorem dL_law_200 : decode cL_law 200 = .ok (.ifCond .eq 7, 3) := by decide +kernel
theorem dL_law_203 : decode cL_law 203 = .ok (.iconst 1, 1) := by decide +kernel
theorem dL_law_204 : decode cL_law 204 = .ok (.goto 4, 3) := by decide +kernel
theorem dL_law_207 : decode cL_law 207 = .ok (.iconst 0, 1) := by decide +kernel
theorem dL_law_208 : decode cL_law 208 = .ok (.invokevirtual 105, 3) := by decide +kernel
theorem dL_law_211 : decode cL_law 211 = .ok (.istore 6, 2) := by decide +kernel
theorem dL_law_213 : decode cL_law 213 = .ok (.aload_n 2, 1) := by decide +kernel
theorem dL_law_214 : decode cL_law 214 = .ok (.invokevirtual 106, 3) := by decide +kernel
theorem dL_law_217 : decode cL_law 217 = .ok (.iload 5, 2) := by decide +kernel
theorem dL_law_219 : decode cL_law 219 = .ok (.if_icmp .eq 5, 3) := by decide +kernel
theorem dL_law_222 : decode cL_law 222 = .ok (.iconst 0, 1) := by decide +kernel
theorem dL_law_223 : decode cL_law 223 = .ok (.ireturn, 1) := by decide +kernel
theorem dL_law_224 : decode cL_law 224 = .ok (.iload 5, 2) := by decide +kernel
theorem dL_law_226 : decode cL_law 226 = .ok (.ifCond .ne 15, 3) := by decide +kernel
theorem dL_law_229 : decode cL_law 229 = .ok (.aload_n 3, 1) := by decide +kernel
theorem dL_law_230 : decode cL_law 230 = .ok (.iconst 0, 1) := by decide +kernel
theorem dL_law_231 : decode cL_law 231 = .ok (.laload, 1) := by decide +kernel
theorem dL_law_232 : decode cL_law 232 = .ok (.iload 6, 2) := by decide +kernel
theorem dL_law_234 : decode cL_law 234 = .ok (.i2l, 1) := by decide +kernel
theorem dL_law_235 : decode cL_law 235 = .ok (.lcmp, 1) := by decide +kernel
theorem dL_law_236 : decode cL_law 236 = .ok (.ifCond .eq 5, 3) := by decide +kernel
theorem dL_law_239 : decode cL_law 239 = .ok (.iconst 0, 1) := by decide +kernel
theorem dL_law_240 : decode cL_law 240 = .ok (.ireturn, 1) := by decide +kernel
theorem dL_law_241 : decode cL_law 241 = .ok (.goto 1838, 3) := by decide +kernel
theorem dL_law_244 : decode cL_law 244 = .ok (.aload_n 1, 1) := by decide +kernel
theorem dL_law_245 : decode cL_law 245 = .ok (.aload_n 0, 1) := by decide +kernel
theorem dL_law_246 : decode cL_law 246 = .ok (.iload 4, 2) := by decide +kernel
theorem dL_law_248 : decode cL_law 248 = .ok (.iconst 1, 1) := by decide +kernel
theorem dL_law_249 : decode cL_law 249 = .ok (.iadd, 1) := by decide +kernel
theorem dL_law_250 : decode cL_law 250 = .ok (.iaload, 1) := by decide +kernel
theorem dL_law_251 : decode cL_law 251 = .ok (.aload_n 0, 1) := by decide +kernel
theorem dL_law_252 : decode cL_law 252 = .ok (.iload 4, 2) := by decide +kernel
theorem dL_law_254 : decode cL_law 254 = .ok (.iconst 2, 1) := by decide +kernel
theorem dL_law_255 : decode cL_law 255 = .ok (.iadd, 1) := by decide +kernel
theorem dL_law_256 : decode cL_law 256 = .ok (.iaload, 1) := by decide +kernel
theorem dL_law_257 : decode cL_law 257 = .ok (.aload_n 3, 1) := by decide +kernel
theorem dL_law_258 : decode cL_law 258 = .ok (.invokestatic 110, 3) := by decide +kernel
theorem dL_law_261 : decode cL_law 261 = .ok (.istore 5, 2) := by decide +kernel
theorem dL_law_263 : decode cL_law 263 = .ok (.aload_n 2, 1) := by decide +kernel
theorem dL_law_264 : decode cL_law 264 = .ok (.aload_n 0, 1) := by decide +kernel
theorem dL_law_265 : decode cL_law 265 = .ok (.iload 4, 2) := by decide +kernel
theorem dL_law_267 : decode cL_law 267 = .ok (.iconst 1, 1) := by decide +kernel
theorem dL_law_268 : decode cL_law 268 = .ok (.iadd, 1) := by decide +kernel
theorem dL_law_269 : decode cL_law 269 = .ok (.iaload, 1) := by decide +kernel
theorem dL_law_270 : decode cL_law 270 = .ok (.aload_n 0, 1) := by decide +kernel
theorem dL_law_271 : decode cL_law 271 = .ok (.iload 4, 2) := by decide +kernel
theorem dL_law_273 : decode cL_law 273 = .ok (.iconst 2, 1) := by decide +kernel
theorem dL_law_274 : decode cL_law 274 = .ok (.iadd, 1) := by decide +kernel
theorem dL_law_275 : decode cL_law 275 = .ok (.iaload, 1) := by decide +kernel
theorem dL_law_276 : decode cL_law 276 = .ok (.invokevirtual 113, 3) := by decide +kernel
theorem dL_law_279 : decode cL_law 279 = .ok (.istore 6, 2) := by decide +kernel
theorem dL_law_281 : decode cL_law 281 = .ok (.aload_n 2, 1) := by decide +kernel
theorem dL_law_282 : decode cL_law 282 = .ok (.invokevirtual 106, 3) := by decide +kernel
theorem dL_law_285 : decode cL_law 285 = .ok (.iload 5, 2) := by decide +kernel
theorem dL_law_287 : decode cL_law 287 = .ok (.if_icmp .eq 5, 3) := by decide +kernel
theorem dL_law_290 : decode cL_law 290 = .ok (.iconst 0, 1) := by decide +kernel
theorem dL_law_291 : decode cL_law 291 = .ok (.ireturn, 1) := by decide +kernel
theorem dL_law_292 : decode cL_law 292 = .ok (.iload 5, 2) := by decide +kernel
theorem dL_law_294 : decode cL_law 294 = .ok (.ifCond .ne 15, 3) := by decide +kernel
theorem dL_law_297 : decode cL_law 297 = .ok (.aload_n 3, 1) := by decide +kernel
theorem dL_law_298 : decode cL_law 298 = .ok (.iconst 0, 1) := by decide +kernel
theorem dL_law_299 : decode cL_law 299 = .ok (.laload, 1) := by decide +kernel
theorem dL_law_300 : decode cL_law 300 = .ok (.iload 6, 2) := by decide +kernel
theorem dL_law_302 : decode cL_law 302 = .ok (.i2l, 1) := by decide +kernel
theorem dL_law_303 : decode cL_law 303 = .ok (.lcmp, 1) := by decide +kernel
theorem dL_law_304 : decode cL_law 304 = .ok (.ifCond .eq 5, 3) := by decide +kernel
theorem dL_law_307 : decode cL_law 307 = .ok (.iconst 0, 1) := by decide +kernel
theorem dL_law_308 : decode cL_law 308 = .ok (.ireturn, 1) := by decide +kernel
theorem dL_law_309 : decode cL_law 309 = .ok (.goto 1770, 3) := by decide +kernel
theorem dL_law_312 : decode cL_law 312 = .ok (.aload_n 1, 1) := by decide +kernel
theorem dL_law_313 : decode cL_law 313 = .ok (.aload_n 0, 1) := by decide +kernel
theorem dL_law_314 : decode cL_law 314 = .ok (.iload 4, 2) := by decide +kernel
theorem dL_law_316 : decode cL_law 316 = .ok (.iconst 1, 1) := by decide +kernel
theorem dL_law_317 : decode cL_law 317 = .ok (.iadd, 1) := by decide +kernel
theorem dL_law_318 : decode cL_law 318 = .ok (.iaload, 1) := by decide +kernel
theorem dL_law_319 : decode cL_law 319 = .ok (.aload_n 0, 1) := by decide +kernel
theorem dL_law_320 : decode cL_law 320 = .ok (.iload 4, 2) := by decide +kernel
theorem dL_law_322 : decode cL_law 322 = .ok (.iconst 2, 1) := by decide +kernel
theorem dL_law_323 : decode cL_law 323 = .ok (.iadd, 1) := by decide +kernel
theorem dL_law_324 : decode cL_law 324 = .ok (.iaload, 1) := by decide +kernel
theorem dL_law_325 : decode cL_law 325 = .ok (.aload_n 3, 1) := by decide +kernel
theorem dL_law_326 : decode cL_law 326 = .ok (.invokestatic 114, 3) := by decide +kernel
theorem dL_law_329 : decode cL_law 329 = .ok (.istore 5, 2) := by decide +kernel
theorem dL_law_331 : decode cL_law 331 = .ok (.aload_n 2, 1) := by decide +kernel
theorem dL_law_332 : decode cL_law 332 = .ok (.aload_n 0, 1) := by decide +kernel
theorem dL_law_333 : decode cL_law 333 = .ok (.iload 4, 2) := by decide +kernel
theorem dL_law_335 : decode cL_law 335 = .ok (.iconst 1, 1) := by decide +kernel
theorem dL_law_336 : decode cL_law 336 = .ok (.iadd, 1) := by decide +kernel
theorem dL_law_337 : decode cL_law 337 = .ok (.iaload, 1) := by decide +kernel
theorem dL_law_338 : decode cL_law 338 = .ok (.aload_n 0, 1) := by decide +kernel
theorem dL_law_339 : decode cL_law 339 = .ok (.iload 4, 2) := by decide +kernel
theorem dL_law_341 : decode cL_law 341 = .ok (.iconst 2, 1) := by decide +kernel
theorem dL_law_342 : decode cL_law 342 = .ok (.iadd, 1) := by decide +kernel
theorem dL_law_343 : decode cL_law 343 = .ok (.iaload, 1) := by decide +kernel
theorem dL_law_344 : decode cL_law 344 = .ok (.invokevirtual 116, 3) := by decide +kernel
theorem dL_law_347 : decode cL_law 347 = .ok (.istore 6, 2) := by decide +kernel
theorem dL_law_349 : decode cL_law 349 = .ok (.aload_n 2, 1) := by decide +kernel
theorem dL_law_350 : decode cL_law 350 = .ok (.invokevirtual 106, 3) := by decide +kernel
theorem dL_law_353 : decode cL_law 353 = .ok (.iload 5, 2) := by decide +kernel
theorem dL_law_355 : decode cL_law 355 = .ok (.if_icmp .eq 5, 3) := by decide +kernel
theorem dL_law_358 : decode cL_law 358 = .ok (.iconst 0, 1) := by decide +kernel
theorem dL_law_359 : decode cL_law 359 = .ok (.ireturn, 1) := by decide +kernel
theorem dL_law_360 : decode cL_law 360 = .ok (.iload 5, 2) := by decide +kernel
theorem dL_law_362 : decode cL_law 362 = .ok (.ifCond .ne 15, 3) := by decide +kernel
theorem dL_law_365 : decode cL_law 365 = .ok (.aload_n 3, 1) := by decide +kernel
theorem dL_law_366 : decode cL_law 366 = .ok (.iconst 0, 1) := by decide +kernel
theorem dL_law_367 : decode cL_law 367 = .ok (.laload, 1) := by decide +kernel
theorem dL_law_368 : decode cL_law 368 = .ok (.iload 6, 2) := by decide +kernel
theorem dL_law_370 : decode cL_law 370 = .ok (.i2l, 1) := by decide +kernel
theorem dL_law_371 : decode cL_law 371 = .ok (.lcmp, 1) := by decide +kernel
theorem dL_law_372 : decode cL_law 372 = .ok (.ifCond .eq 5, 3) := by decide +kernel
theorem dL_law_375 : decode cL_law 375 = .ok (.iconst 0, 1) := by decide +kernel
theorem dL_law_376 : decode cL_law 376 = .ok (.ireturn, 1) := by decide +kernel
theorem dL_law_377 : decode cL_law 377 = .ok (.goto 1702, 3) := by decide +kernel
theorem dL_law_380 : decode cL_law 380 = .ok (.aload_n 1, 1) := by decide +kernel
theorem dL_law_381 : decode cL_law 381 = .ok (.aload_n 0, 1) := by decide +kernel
theorem dL_law_382 : decode cL_law 382 = .ok (.iload 4, 2) := by decide +kernel
theorem dL_law_384 : decode cL_law 384 = .ok (.iconst 1, 1) := by decide +kernel
theorem dL_law_385 : decode cL_law 385 = .ok (.iadd, 1) := by decide +kernel
theorem dL_law_386 : decode cL_law 386 = .ok (.iaload, 1) := by decide +kernel
theorem dL_law_387 : decode cL_law 387 = .ok (.aload_n 0, 1) := by decide +kernel
theorem dL_law_388 : decode cL_law 388 = .ok (.iload 4, 2) := by decide +kernel
theorem dL_law_390 : decode cL_law 390 = .ok (.iconst 2, 1) := by decide +kernel
theorem dL_law_391 : decode cL_law 391 = .ok (.iadd, 1) := by decide +kernel
theorem dL_law_392 : decode cL_law 392 = .ok (.iaload, 1) := by decide +kernel
theorem dL_law_393 : decode cL_law 393 = .ok (.aload_n 0, 1) := by decide +kernel
theorem dL_law_394 : decode cL_law 394 = .ok (.iload 4, 2) := by decide +kernel
theorem dL_law_396 : decode cL_law 396 = .ok (.iconst 3, 1) := by decide +kernel
theorem dL_law_397 : decode cL_law 397 = .ok (.iadd, 1) := by decide +kernel
theorem dL_law_398 : decode cL_law 398 = .ok (.iaload, 1) := by decide +kernel
theorem dL_law_399 : decode cL_law 399 = .ok (.aload_n 3, 1) := by decide +kernel
theorem dL_law_400 : decode cL_law 400 = .ok (.invokestatic 117, 3) := by decide +kernel
theorem dL_law_403 : decode cL_law 403 = .ok (.istore 5, 2) := by decide +kernel
theorem dL_law_405 : decode cL_law 405 = .ok (.aload_n 2, 1) := by decide +kernel
theorem dL_law_406 : decode cL_law 406 = .ok (.aload_n 0, 1) := by decide +kernel
theorem dL_law_407 : decode cL_law 407 = .ok (.iload 4, 2) := by decide +kernel
theorem dL_law_409 : decode cL_law 409 = .ok (.iconst 1, 1) := by decide +kernel
theorem dL_law_410 : decode cL_law 410 = .ok (.iadd, 1) := by decide +kernel
theorem dL_law_411 : decode cL_law 411 = .ok (.iaload, 1) := by decide +kernel
theorem dL_law_412 : decode cL_law 412 = .ok (.aload_n 0, 1) := by decide +kernel
theorem dL_law_413 : decode cL_law 413 = .ok (.iload 4, 2) := by decide +kernel
theorem dL_law_415 : decode cL_law 415 = .ok (.iconst 2, 1) := by decide +kernel
theorem dL_law_416 : decode cL_law 416 = .ok (.iadd, 1) := by decide +kernel
theorem dL_law_417 : decode cL_law 417 = .ok (.iaload, 1) := by decide +kernel
theorem dL_law_418 : decode cL_law 418 = .ok (.aload_n 0, 1) := by decide +kernel
theorem dL_law_419 : decode cL_law 419 = .ok (.iload 4, 2) := by decide +kernel
theorem dL_law_421 : decode cL_law 421 = .ok (.iconst 3, 1) := by decide +kernel
theorem dL_law_422 : decode cL_law 422 = .ok (.iadd, 1) := by decide +kernel
theorem dL_law_423 : decode cL_law 423 = .ok (.iaload, 1) := by decide +kernel
theorem dL_law_424 : decode cL_law 424 = .ok (.invokevirtual 120, 3) := by decide +kernel
theorem dL_law_427 : decode cL_law 427 = .ok (.istore 6, 2) := by decide +kernel
theorem dL_law_429 : decode cL_law 429 = .ok (.aload_n 2, 1) := by decide +kernel
theorem dL_law_430 : decode cL_law 430 = .ok (.invokevirtual 106, 3) := by decide +kernel
theorem dL_law_433 : decode cL_law 433 = .ok (.iload 5, 2) := by decide +kernel
theorem dL_law_435 : decode cL_law 435 = .ok (.if_icmp .eq 5, 3) := by decide +kernel
theorem dL_law_438 : decode cL_law 438 = .ok (.iconst 0, 1) := by decide +kernel
theorem dL_law_439 : decode cL_law 439 = .ok (.ireturn, 1) := by decide +kernel
theorem dL_law_440 : decode cL_law 440 = .ok (.iload 5, 2) := by decide +kernel
theorem dL_law_442 : decode cL_law 442 = .ok (.ifCond .ne 15, 3) := by decide +kernel
theorem dL_law_445 : decode cL_law 445 = .ok (.aload_n 3, 1) := by decide +kernel
theorem dL_law_446 : decode cL_law 446 = .ok (.iconst 0, 1) := by decide +kernel
theorem dL_law_447 : decode cL_law 447 = .ok (.laload, 1) := by decide +kernel
theorem dL_law_448 : decode cL_law 448 = .ok (.iload 6, 2) := by decide +kernel
theorem dL_law_450 : decode cL_law 450 = .ok (.i2l, 1) := by decide +kernel
theorem dL_law_451 : decode cL_law 451 = .ok (.lcmp, 1) := by decide +kernel
theorem dL_law_452 : decode cL_law 452 = .ok (.ifCond .eq 5, 3) := by decide +kernel
theorem dL_law_455 : decode cL_law 455 = .ok (.iconst 0, 1) := by decide +kernel
theorem dL_law_456 : decode cL_law 456 = .ok (.ireturn, 1) := by decide +kernel
theorem dL_law_457 : decode cL_law 457 = .ok (.goto 1622, 3) := by decide +kernel
theorem dL_law_460 : decode cL_law 460 = .ok (.aload_n 1, 1) := by decide +kernel
theorem dL_law_461 : decode cL_law 461 = .ok (.aload_n 0, 1) := by decide +kernel
theorem dL_law_462 : decode cL_law 462 = .ok (.iload 4, 2) := by decide +kernel
theorem dL_law_464 : decode cL_law 464 = .ok (.iconst 1, 1) := by decide +kernel
theorem dL_law_465 : decode cL_law 465 = .ok (.iadd, 1) := by decide +kernel
theorem dL_law_466 : decode cL_law 466 = .ok (.iaload, 1) := by decide +kernel
theorem dL_law_467 : decode cL_law 467 = .ok (.aload_n 0, 1) := by decide +kernel
theorem dL_law_468 : decode cL_law 468 = .ok (.iload 4, 2) := by decide +kernel
theorem dL_law_470 : decode cL_law 470 = .ok (.iconst 2, 1) := by decide +kernel
theorem dL_law_471 : decode cL_law 471 = .ok (.iadd, 1) := by decide +kernel
theorem dL_law_472 : decode cL_law 472 = .ok (.iaload, 1) := by decide +kernel
theorem dL_law_473 : decode cL_law 473 = .ok (.ifCond .eq 7, 3) := by decide +kernel
theorem dL_law_476 : decode cL_law 476 = .ok (.iconst 1, 1) := by decide +kernel
theorem dL_law_477 : decode cL_law 477 = .ok (.goto 4, 3) := by decide +kernel
theorem dL_law_480 : decode cL_law 480 = .ok (.iconst 0, 1) := by decide +kernel
theorem dL_law_481 : decode cL_law 481 = .ok (.aload_n 3, 1) := by decide +kernel
theorem dL_law_482 : decode cL_law 482 = .ok (.invokestatic 121, 3) := by decide +kernel
theorem dL_law_485 : decode cL_law 485 = .ok (.istore 5, 2) := by decide +kernel
theorem dL_law_487 : decode cL_law 487 = .ok (.aload_n 2, 1) := by decide +kernel
theorem dL_law_488 : decode cL_law 488 = .ok (.aload_n 0, 1) := by decide +kernel
theorem dL_law_489 : decode cL_law 489 = .ok (.iload 4, 2) := by decide +kernel
theorem dL_law_491 : decode cL_law 491 = .ok (.iconst 1, 1) := by decide +kernel
theorem dL_law_492 : decode cL_law 492 = .ok (.iadd, 1) := by decide +kernel
theorem dL_law_493 : decode cL_law 493 = .ok (.iaload, 1) := by decide +kernel
theorem dL_law_494 : decode cL_law 494 = .ok (.aload_n 0, 1) := by decide +kernel
theorem dL_law_495 : decode cL_law 495 = .ok (.iload 4, 2) := by decide +kernel
theorem dL_law_497 : decode cL_law 497 = .ok (.iconst 2, 1) := by decide +kernel
theorem dL_law_498 : decode cL_law 498 = .ok (.iadd, 1) := by decide +kernel
theorem dL_law_499 : decode cL_law 499 = .ok (.iaload, 1) := by decide +kernel
theorem dL_law_500 : decode cL_law 500 = .ok (.ifCond .eq 7, 3) := by decide +kernel
theorem dL_law_503 : decode cL_law 503 = .ok (.iconst 1, 1) := by decide +kernel
theorem dL_law_504 : decode cL_law 504 = .ok (.goto 4, 3) := by decide +kernel
theorem dL_law_507 : decode cL_law 507 = .ok (.iconst 0, 1) := by decide +kernel
theorem dL_law_508 : decode cL_law 508 = .ok (.invokevirtual 124, 3) := by decide +kernel
theorem dL_law_511 : decode cL_law 511 = .ok (.istore 6, 2) := by decide +kernel
theorem dL_law_513 : decode cL_law 513 = .ok (.aload_n 2, 1) := by decide +kernel
theorem dL_law_514 : decode cL_law 514 = .ok (.invokevirtual 106, 3) := by decide +kernel
theorem dL_law_517 : decode cL_law 517 = .ok (.iload 5, 2) := by decide +kernel
theorem dL_law_519 : decode cL_law 519 = .ok (.if_icmp .eq 5, 3) := by decide +kernel
theorem dL_law_522 : decode cL_law 522 = .ok (.iconst 0, 1) := by decide +kernel
theorem dL_law_523 : decode cL_law 523 = .ok (.ireturn, 1) := by decide +kernel
theorem dL_law_524 : decode cL_law 524 = .ok (.iload 5, 2) := by decide +kernel
theorem dL_law_526 : decode cL_law 526 = .ok (.ifCond .ne 22, 3) := by decide +kernel
theorem dL_law_529 : decode cL_law 529 = .ok (.aload_n 3, 1) := by decide +kernel
theorem dL_law_530 : decode cL_law 530 = .ok (.iconst 0, 1) := by decide +kernel
theorem dL_law_531 : decode cL_law 531 = .ok (.laload, 1) := by decide +kernel
theorem dL_law_532 : decode cL_law 532 = .ok (.iload 6, 2) := by decide +kernel
theorem dL_law_534 : decode cL_law 534 = .ok (.ifCond .eq 7, 3) := by decide +kernel
theorem dL_law_537 : decode cL_law 537 = .ok (.lconst 1, 1) := by decide +kernel
theorem dL_law_538 : decode cL_law 538 = .ok (.goto 4, 3) := by decide +kernel
theorem dL_law_541 : decode cL_law 541 = .ok (.lconst 0, 1) := by decide +kernel
theorem dL_law_542 : decode cL_law 542 = .ok (.lcmp, 1) := by decide +kernel
theorem dL_law_543 : decode cL_law 543 = .ok (.ifCond .eq 5, 3) := by decide +kernel
theorem dL_law_546 : decode cL_law 546 = .ok (.iconst 0, 1) := by decide +kernel
theorem dL_law_547 : decode cL_law 547 = .ok (.ireturn, 1) := by decide +kernel
theorem dL_law_548 : decode cL_law 548 = .ok (.goto 1531, 3) := by decide +kernel
theorem dL_law_551 : decode cL_law 551 = .ok (.aload_n 1, 1) := by decide +kernel
theorem dL_law_552 : decode cL_law 552 = .ok (.aload_n 0, 1) := by decide +kernel
theorem dL_law_553 : decode cL_law 553 = .ok (.iload 4, 2) := by decide +kernel
theorem dL_law_555 : decode cL_law 555 = .ok (.iconst 1, 1) := by decide +kernel
theorem dL_law_556 : decode cL_law 556 = .ok (.iadd, 1) := by decide +kernel
theorem dL_law_557 : decode cL_law 557 = .ok (.iaload, 1) := by decide +kernel
theorem dL_law_558 : decode cL_law 558 = .ok (.aload_n 0, 1) := by decide +kernel
theorem dL_law_559 : decode cL_law 559 = .ok (.iload 4, 2) := by decide +kernel
theorem dL_law_561 : decode cL_law 561 = .ok (.iconst 2, 1) := by decide +kernel
theorem dL_law_562 : decode cL_law 562 = .ok (.iadd, 1) := by decide +kernel
theorem dL_law_563 : decode cL_law 563 = .ok (.iaload, 1) := by decide +kernel
theorem dL_law_564 : decode cL_law 564 = .ok (.i2l, 1) := by decide +kernel
theorem dL_law_565 : decode cL_law 565 = .ok (.bipush 32, 2) := by decide +kernel
theorem dL_law_567 : decode cL_law 567 = .ok (.lshl, 1) := by decide +kernel
theorem dL_law_568 : decode cL_law 568 = .ok (.aload_n 0, 1) := by decide +kernel
theorem dL_law_569 : decode cL_law 569 = .ok (.iload 4, 2) := by decide +kernel
theorem dL_law_571 : decode cL_law 571 = .ok (.iconst 3, 1) := by decide +kernel
theorem dL_law_572 : decode cL_law 572 = .ok (.iadd, 1) := by decide +kernel
theorem dL_law_573 : decode cL_law 573 = .ok (.iaload, 1) := by decide +kernel
theorem dL_law_574 : decode cL_law 574 = .ok (.i2l, 1) := by decide +kernel
theorem dL_law_575 : decode cL_law 575 = .ok (.ldc2_w 125, 3) := by decide +kernel
theorem dL_law_578 : decode cL_law 578 = .ok (.land, 1) := by decide +kernel
theorem dL_law_579 : decode cL_law 579 = .ok (.lor, 1) := by decide +kernel
theorem dL_law_580 : decode cL_law 580 = .ok (.aload_n 0, 1) := by decide +kernel
theorem dL_law_581 : decode cL_law 581 = .ok (.iload 4, 2) := by decide +kernel
theorem dL_law_583 : decode cL_law 583 = .ok (.iconst 4, 1) := by decide +kernel
theorem dL_law_584 : decode cL_law 584 = .ok (.iadd, 1) := by decide +kernel
theorem dL_law_585 : decode cL_law 585 = .ok (.iaload, 1) := by decide +kernel
theorem dL_law_586 : decode cL_law 586 = .ok (.aload_n 3, 1) := by decide +kernel
theorem dL_law_587 : decode cL_law 587 = .ok (.invokestatic 127, 3) := by decide +kernel
theorem dL_law_590 : decode cL_law 590 = .ok (.istore 5, 2) := by decide +kernel
theorem dL_law_592 : decode cL_law 592 = .ok (.aload_n 2, 1) := by decide +kernel
theorem dL_law_593 : decode cL_law 593 = .ok (.aload_n 0, 1) := by decide +kernel
theorem dL_law_594 : decode cL_law 594 = .ok (.iload 4, 2) := by decide +kernel
theorem dL_law_596 : decode cL_law 596 = .ok (.iconst 1, 1) := by decide +kernel
theorem dL_law_597 : decode cL_law 597 = .ok (.iadd, 1) := by decide +kernel
theorem dL_law_598 : decode cL_law 598 = .ok (.iaload, 1) := by decide +kernel
theorem dL_law_599 : decode cL_law 599 = .ok (.aload_n 0, 1) := by decide +kernel
theorem dL_law_600 : decode cL_law 600 = .ok (.iload 4, 2) := by decide +kernel
theorem dL_law_602 : decode cL_law 602 = .ok (.iconst 2, 1) := by decide +kernel
theorem dL_law_603 : decode cL_law 603 = .ok (.iadd, 1) := by decide +kernel
theorem dL_law_604 : decode cL_law 604 = .ok (.iaload, 1) := by decide +kernel
theorem dL_law_605 : decode cL_law 605 = .ok (.i2l, 1) := by decide +kernel
theorem dL_law_606 : decode cL_law 606 = .ok (.bipush 32, 2) := by decide +kernel
theorem dL_law_608 : decode cL_law 608 = .ok (.lshl, 1) := by decide +kernel
theorem dL_law_609 : decode cL_law 609 = .ok (.aload_n 0, 1) := by decide +kernel
theorem dL_law_610 : decode cL_law 610 = .ok (.iload 4, 2) := by decide +kernel
theorem dL_law_612 : decode cL_law 612 = .ok (.iconst 3, 1) := by decide +kernel
theorem dL_law_613 : decode cL_law 613 = .ok (.iadd, 1) := by decide +kernel
theorem dL_law_614 : decode cL_law 614 = .ok (.iaload, 1) := by decide +kernel
theorem dL_law_615 : decode cL_law 615 = .ok (.i2l, 1) := by decide +kernel
theorem dL_law_616 : decode cL_law 616 = .ok (.ldc2_w 125, 3) := by decide +kernel
theorem dL_law_619 : decode cL_law 619 = .ok (.land, 1) := by decide +kernel
theorem dL_law_620 : decode cL_law 620 = .ok (.lor, 1) := by decide +kernel
theorem dL_law_621 : decode cL_law 621 = .ok (.aload_n 0, 1) := by decide +kernel
theorem dL_law_622 : decode cL_law 622 = .ok (.iload 4, 2) := by decide +kernel
theorem dL_law_624 : decode cL_law 624 = .ok (.iconst 4, 1) := by decide +kernel
theorem dL_law_625 : decode cL_law 625 = .ok (.iadd, 1) := by decide +kernel
theorem dL_law_626 : decode cL_law 626 = .ok (.iaload, 1) := by decide +kernel
theorem dL_law_627 : decode cL_law 627 = .ok (.invokevirtual 130, 3) := by decide +kernel
theorem dL_law_630 : decode cL_law 630 = .ok (.istore 6, 2) := by decide +kernel
theorem dL_law_632 : decode cL_law 632 = .ok (.aload_n 2, 1) := by decide +kernel
theorem dL_law_633 : decode cL_law 633 = .ok (.invokevirtual 106, 3) := by decide +kernel
theorem dL_law_636 : decode cL_law 636 = .ok (.iload 5, 2) := by decide +kernel
theorem dL_law_638 : decode cL_law 638 = .ok (.if_icmp .eq 5, 3) := by decide +kernel
theorem dL_law_641 : decode cL_law 641 = .ok (.iconst 0, 1) := by decide +kernel
theorem dL_law_642 : decode cL_law 642 = .ok (.ireturn, 1) := by decide +kernel
theorem dL_law_643 : decode cL_law 643 = .ok (.iload 5, 2) := by decide +kernel
theorem dL_law_645 : decode cL_law 645 = .ok (.ifCond .ne 15, 3) := by decide +kernel
theorem dL_law_648 : decode cL_law 648 = .ok (.aload_n 3, 1) := by decide +kernel
theorem dL_law_649 : decode cL_law 649 = .ok (.iconst 0, 1) := by decide +kernel
theorem dL_law_650 : decode cL_law 650 = .ok (.laload, 1) := by decide +kernel
theorem dL_law_651 : decode cL_law 651 = .ok (.iload 6, 2) := by decide +kernel
theorem dL_law_653 : decode cL_law 653 = .ok (.i2l, 1) := by decide +kernel
theorem dL_law_654 : decode cL_law 654 = .ok (.lcmp, 1) := by decide +kernel
theorem dL_law_655 : decode cL_law 655 = .ok (.ifCond .eq 5, 3) := by decide +kernel
theorem dL_law_658 : decode cL_law 658 = .ok (.iconst 0, 1) := by decide +kernel
theorem dL_law_659 : decode cL_law 659 = .ok (.ireturn, 1) := by decide +kernel
theorem dL_law_660 : decode cL_law 660 = .ok (.goto 1419, 3) := by decide +kernel
theorem dL_law_663 : decode cL_law 663 = .ok (.aload_n 1, 1) := by decide +kernel
theorem dL_law_664 : decode cL_law 664 = .ok (.aload_n 0, 1) := by decide +kernel
theorem dL_law_665 : decode cL_law 665 = .ok (.iload 4, 2) := by decide +kernel
theorem dL_law_667 : decode cL_law 667 = .ok (.iconst 1, 1) := by decide +kernel
theorem dL_law_668 : decode cL_law 668 = .ok (.iadd, 1) := by decide +kernel
theorem dL_law_669 : decode cL_law 669 = .ok (.iaload, 1) := by decide +kernel
theorem dL_law_670 : decode cL_law 670 = .ok (.aload_n 3, 1) := by decide +kernel
theorem dL_law_671 : decode cL_law 671 = .ok (.invokestatic 131, 3) := by decide +kernel
theorem dL_law_674 : decode cL_law 674 = .ok (.istore 5, 2) := by decide +kernel
theorem dL_law_676 : decode cL_law 676 = .ok (.aload_n 2, 1) := by decide +kernel
theorem dL_law_677 : decode cL_law 677 = .ok (.aload_n 0, 1) := by decide +kernel
theorem dL_law_678 : decode cL_law 678 = .ok (.iload 4, 2) := by decide +kernel
theorem dL_law_680 : decode cL_law 680 = .ok (.iconst 1, 1) := by decide +kernel
theorem dL_law_681 : decode cL_law 681 = .ok (.iadd, 1) := by decide +kernel
theorem dL_law_682 : decode cL_law 682 = .ok (.iaload, 1) := by decide +kernel
theorem dL_law_683 : decode cL_law 683 = .ok (.invokevirtual 134, 3) := by decide +kernel
theorem dL_law_686 : decode cL_law 686 = .ok (.istore 6, 2) := by decide +kernel
theorem dL_law_688 : decode cL_law 688 = .ok (.aload_n 2, 1) := by decide +kernel
theorem dL_law_689 : decode cL_law 689 = .ok (.invokevirtual 106, 3) := by decide +kernel
theorem dL_law_692 : decode cL_law 692 = .ok (.iload 5, 2) := by decide +kernel
theorem dL_law_694 : decode cL_law 694 = .ok (.if_icmp .eq 5, 3) := by decide +kernel
theorem dL_law_697 : decode cL_law 697 = .ok (.iconst 0, 1) := by decide +kernel
theorem dL_law_698 : decode cL_law 698 = .ok (.ireturn, 1) := by decide +kernel
theorem dL_law_699 : decode cL_law 699 = .ok (.iload 5, 2) := by decide +kernel
theorem dL_law_701 : decode cL_law 701 = .ok (.ifCond .ne 15, 3) := by decide +kernel
theorem dL_law_704 : decode cL_law 704 = .ok (.aload_n 3, 1) := by decide +kernel
theorem dL_law_705 : decode cL_law 705 = .ok (.iconst 0, 1) := by decide +kernel
theorem dL_law_706 : decode cL_law 706 = .ok (.laload, 1) := by decide +kernel
theorem dL_law_707 : decode cL_law 707 = .ok (.iload 6, 2) := by decide +kernel
theorem dL_law_709 : decode cL_law 709 = .ok (.i2l, 1) := by decide +kernel
theorem dL_law_710 : decode cL_law 710 = .ok (.lcmp, 1) := by decide +kernel
theorem dL_law_711 : decode cL_law 711 = .ok (.ifCond .eq 5, 3) := by decide +kernel
theorem dL_law_714 : decode cL_law 714 = .ok (.iconst 0, 1) := by decide +kernel
theorem dL_law_715 : decode cL_law 715 = .ok (.ireturn, 1) := by decide +kernel
theorem dL_law_716 : decode cL_law 716 = .ok (.goto 1363, 3) := by decide +kernel
theorem dL_law_719 : decode cL_law 719 = .ok (.aload_n 1, 1) := by decide +kernel
theorem dL_law_720 : decode cL_law 720 = .ok (.aload_n 0, 1) := by decide +kernel
theorem dL_law_721 : decode cL_law 721 = .ok (.iload 4, 2) := by decide +kernel
theorem dL_law_723 : decode cL_law 723 = .ok (.iconst 1, 1) := by decide +kernel
theorem dL_law_724 : decode cL_law 724 = .ok (.iadd, 1) := by decide +kernel
theorem dL_law_725 : decode cL_law 725 = .ok (.iaload, 1) := by decide +kernel
theorem dL_law_726 : decode cL_law 726 = .ok (.aload_n 0, 1) := by decide +kernel
theorem dL_law_727 : decode cL_law 727 = .ok (.iload 4, 2) := by decide +kernel
theorem dL_law_729 : decode cL_law 729 = .ok (.iconst 2, 1) := by decide +kernel
theorem dL_law_730 : decode cL_law 730 = .ok (.iadd, 1) := by decide +kernel
theorem dL_law_731 : decode cL_law 731 = .ok (.iaload, 1) := by decide +kernel
theorem dL_law_732 : decode cL_law 732 = .ok (.aload_n 0, 1) := by decide +kernel
theorem dL_law_733 : decode cL_law 733 = .ok (.iload 4, 2) := by decide +kernel
theorem dL_law_735 : decode cL_law 735 = .ok (.iconst 3, 1) := by decide +kernel
theorem dL_law_736 : decode cL_law 736 = .ok (.iadd, 1) := by decide +kernel
theorem dL_law_737 : decode cL_law 737 = .ok (.iaload, 1) := by decide +kernel
theorem dL_law_738 : decode cL_law 738 = .ok (.aload_n 3, 1) := by decide +kernel
theorem dL_law_739 : decode cL_law 739 = .ok (.invokestatic 135, 3) := by decide +kernel
theorem dL_law_742 : decode cL_law 742 = .ok (.istore 5, 2) := by decide +kernel
theorem dL_law_744 : decode cL_law 744 = .ok (.aload_n 2, 1) := by decide +kernel
theorem dL_law_745 : decode cL_law 745 = .ok (.aload_n 0, 1) := by decide +kernel
theorem dL_law_746 : decode cL_law 746 = .ok (.iload 4, 2) := by decide +kernel
theorem dL_law_748 : decode cL_law 748 = .ok (.iconst 1, 1) := by decide +kernel
theorem dL_law_749 : decode cL_law 749 = .ok (.iadd, 1) := by decide +kernel
theorem dL_law_750 : decode cL_law 750 = .ok (.iaload, 1) := by decide +kernel
theorem dL_law_751 : decode cL_law 751 = .ok (.aload_n 0, 1) := by decide +kernel
theorem dL_law_752 : decode cL_law 752 = .ok (.iload 4, 2) := by decide +kernel
theorem dL_law_754 : decode cL_law 754 = .ok (.iconst 2, 1) := by decide +kernel
theorem dL_law_755 : decode cL_law 755 = .ok (.iadd, 1) := by decide +kernel
theorem dL_law_756 : decode cL_law 756 = .ok (.iaload, 1) := by decide +kernel
theorem dL_law_757 : decode cL_law 757 = .ok (.aload_n 0, 1) := by decide +kernel
theorem dL_law_758 : decode cL_law 758 = .ok (.iload 4, 2) := by decide +kernel
theorem dL_law_760 : decode cL_law 760 = .ok (.iconst 3, 1) := by decide +kernel
theorem dL_law_761 : decode cL_law 761 = .ok (.iadd, 1) := by decide +kernel
theorem dL_law_762 : decode cL_law 762 = .ok (.iaload, 1) := by decide +kernel
theorem dL_law_763 : decode cL_law 763 = .ok (.invokevirtual 137, 3) := by decide +kernel
theorem dL_law_766 : decode cL_law 766 = .ok (.istore 6, 2) := by decide +kernel
theorem dL_law_768 : decode cL_law 768 = .ok (.aload_n 2, 1) := by decide +kernel
theorem dL_law_769 : decode cL_law 769 = .ok (.invokevirtual 106, 3) := by decide +kernel
theorem dL_law_772 : decode cL_law 772 = .ok (.iload 5, 2) := by decide +kernel
theorem dL_law_774 : decode cL_law 774 = .ok (.if_icmp .eq 5, 3) := by decide +kernel
theorem dL_law_777 : decode cL_law 777 = .ok (.iconst 0, 1) := by decide +kernel
theorem dL_law_778 : decode cL_law 778 = .ok (.ireturn, 1) := by decide +kernel
theorem dL_law_779 : decode cL_law 779 = .ok (.iload 5, 2) := by decide +kernel
theorem dL_law_781 : decode cL_law 781 = .ok (.ifCond .ne 15, 3) := by decide +kernel
theorem dL_law_784 : decode cL_law 784 = .ok (.aload_n 3, 1) := by decide +kernel
theorem dL_law_785 : decode cL_law 785 = .ok (.iconst 0, 1) := by decide +kernel
theorem dL_law_786 : decode cL_law 786 = .ok (.laload, 1) := by decide +kernel
theorem dL_law_787 : decode cL_law 787 = .ok (.iload 6, 2) := by decide +kernel
theorem dL_law_789 : decode cL_law 789 = .ok (.i2l, 1) := by decide +kernel
theorem dL_law_790 : decode cL_law 790 = .ok (.lcmp, 1) := by decide +kernel
theorem dL_law_791 : decode cL_law 791 = .ok (.ifCond .eq 5, 3) := by decide +kernel
theorem dL_law_794 : decode cL_law 794 = .ok (.iconst 0, 1) := by decide +kernel
theorem dL_law_795 : decode cL_law 795 = .ok (.ireturn, 1) := by decide +kernel
theorem dL_law_796 : decode cL_law 796 = .ok (.goto 1283, 3) := by decide +kernel
theorem dL_law_799 : decode cL_law 799 = .ok (.aload_n 1, 1) := by decide +kernel
theorem dL_law_800 : decode cL_law 800 = .ok (.aload_n 0, 1) := by decide +kernel
theorem dL_law_801 : decode cL_law 801 = .ok (.iload 4, 2) := by decide +kernel
theorem dL_law_803 : decode cL_law 803 = .ok (.iconst 1, 1) := by decide +kernel
theorem dL_law_804 : decode cL_law 804 = .ok (.iadd, 1) := by decide +kernel
theorem dL_law_805 : decode cL_law 805 = .ok (.iaload, 1) := by decide +kernel
theorem dL_law_806 : decode cL_law 806 = .ok (.aload_n 0, 1) := by decide +kernel
theorem dL_law_807 : decode cL_law 807 = .ok (.iload 4, 2) := by decide +kernel
theorem dL_law_809 : decode cL_law 809 = .ok (.iconst 2, 1) := by decide +kernel
theorem dL_law_810 : decode cL_law 810 = .ok (.iadd, 1) := by decide +kernel
theorem dL_law_811 : decode cL_law 811 = .ok (.iaload, 1) := by decide +kernel
theorem dL_law_812 : decode cL_law 812 = .ok (.aload_n 0, 1) := by decide +kernel
theorem dL_law_813 : decode cL_law 813 = .ok (.iload 4, 2) := by decide +kernel
theorem dL_law_815 : decode cL_law 815 = .ok (.iconst 3, 1) := by decide +kernel
theorem dL_law_816 : decode cL_law 816 = .ok (.iadd, 1) := by decide +kernel
theorem dL_law_817 : decode cL_law 817 = .ok (.iaload, 1) := by decide +kernel
theorem dL_law_818 : decode cL_law 818 = .ok (.aload_n 3, 1) := by decide +kernel
theorem dL_law_819 : decode cL_law 819 = .ok (.invokestatic 138, 3) := by decide +kernel
theorem dL_law_822 : decode cL_law 822 = .ok (.istore 5, 2) := by decide +kernel
theorem dL_law_824 : decode cL_law 824 = .ok (.aload_n 2, 1) := by decide +kernel
theorem dL_law_825 : decode cL_law 825 = .ok (.aload_n 0, 1) := by decide +kernel
theorem dL_law_826 : decode cL_law 826 = .ok (.iload 4, 2) := by decide +kernel
theorem dL_law_828 : decode cL_law 828 = .ok (.iconst 1, 1) := by decide +kernel
theorem dL_law_829 : decode cL_law 829 = .ok (.iadd, 1) := by decide +kernel
theorem dL_law_830 : decode cL_law 830 = .ok (.iaload, 1) := by decide +kernel
theorem dL_law_831 : decode cL_law 831 = .ok (.aload_n 0, 1) := by decide +kernel
theorem dL_law_832 : decode cL_law 832 = .ok (.iload 4, 2) := by decide +kernel
theorem dL_law_834 : decode cL_law 834 = .ok (.iconst 2, 1) := by decide +kernel
theorem dL_law_835 : decode cL_law 835 = .ok (.iadd, 1) := by decide +kernel
theorem dL_law_836 : decode cL_law 836 = .ok (.iaload, 1) := by decide +kernel
theorem dL_law_837 : decode cL_law 837 = .ok (.aload_n 0, 1) := by decide +kernel
theorem dL_law_838 : decode cL_law 838 = .ok (.iload 4, 2) := by decide +kernel
theorem dL_law_840 : decode cL_law 840 = .ok (.iconst 3, 1) := by decide +kernel
theorem dL_law_841 : decode cL_law 841 = .ok (.iadd, 1) := by decide +kernel
theorem dL_law_842 : decode cL_law 842 = .ok (.iaload, 1) := by decide +kernel
theorem dL_law_843 : decode cL_law 843 = .ok (.invokevirtual 140, 3) := by decide +kernel
theorem dL_law_846 : decode cL_law 846 = .ok (.istore 6, 2) := by decide +kernel
theorem dL_law_848 : decode cL_law 848 = .ok (.aload_n 2, 1) := by decide +kernel
theorem dL_law_849 : decode cL_law 849 = .ok (.invokevirtual 106, 3) := by decide +kernel
theorem dL_law_852 : decode cL_law 852 = .ok (.iload 5, 2) := by decide +kernel
theorem dL_law_854 : decode cL_law 854 = .ok (.if_icmp .eq 5, 3) := by decide +kernel
theorem dL_law_857 : decode cL_law 857 = .ok (.iconst 0, 1) := by decide +kernel
theorem dL_law_858 : decode cL_law 858 = .ok (.ireturn, 1) := by decide +kernel
theorem dL_law_859 : decode cL_law 859 = .ok (.iload 5, 2) := by decide +kernel
theorem dL_law_861 : decode cL_law 861 = .ok (.ifCond .ne 15, 3) := by decide +kernel
theorem dL_law_864 : decode cL_law 864 = .ok (.aload_n 3, 1) := by decide +kernel
theorem dL_law_865 : decode cL_law 865 = .ok (.iconst 0, 1) := by decide +kernel
theorem dL_law_866 : decode cL_law 866 = .ok (.laload, 1) := by decide +kernel
theorem dL_law_867 : decode cL_law 867 = .ok (.iload 6, 2) := by decide +kernel
theorem dL_law_869 : decode cL_law 869 = .ok (.i2l, 1) := by decide +kernel
theorem dL_law_870 : decode cL_law 870 = .ok (.lcmp, 1) := by decide +kernel
theorem dL_law_871 : decode cL_law 871 = .ok (.ifCond .eq 5, 3) := by decide +kernel
theorem dL_law_874 : decode cL_law 874 = .ok (.iconst 0, 1) := by decide +kernel
theorem dL_law_875 : decode cL_law 875 = .ok (.ireturn, 1) := by decide +kernel
theorem dL_law_876 : decode cL_law 876 = .ok (.goto 1203, 3) := by decide +kernel
theorem dL_law_879 : decode cL_law 879 = .ok (.aload_n 1, 1) := by decide +kernel
theorem dL_law_880 : decode cL_law 880 = .ok (.aload_n 0, 1) := by decide +kernel
theorem dL_law_881 : decode cL_law 881 = .ok (.iload 4, 2) := by decide +kernel
theorem dL_law_883 : decode cL_law 883 = .ok (.iconst 1, 1) := by decide +kernel
theorem dL_law_884 : decode cL_law 884 = .ok (.iadd, 1) := by decide +kernel
theorem dL_law_885 : decode cL_law 885 = .ok (.iaload, 1) := by decide +kernel
theorem dL_law_886 : decode cL_law 886 = .ok (.aload_n 0, 1) := by decide +kernel
theorem dL_law_887 : decode cL_law 887 = .ok (.iload 4, 2) := by decide +kernel
theorem dL_law_889 : decode cL_law 889 = .ok (.iconst 2, 1) := by decide +kernel
theorem dL_law_890 : decode cL_law 890 = .ok (.iadd, 1) := by decide +kernel
theorem dL_law_891 : decode cL_law 891 = .ok (.iaload, 1) := by decide +kernel
theorem dL_law_892 : decode cL_law 892 = .ok (.aload_n 3, 1) := by decide +kernel
theorem dL_law_893 : decode cL_law 893 = .ok (.invokestatic 141, 3) := by decide +kernel
theorem dL_law_896 : decode cL_law 896 = .ok (.istore 5, 2) := by decide +kernel
theorem dL_law_898 : decode cL_law 898 = .ok (.aload_n 2, 1) := by decide +kernel
theorem dL_law_899 : decode cL_law 899 = .ok (.aload_n 0, 1) := by decide +kernel
theorem dL_law_900 : decode cL_law 900 = .ok (.iload 4, 2) := by decide +kernel
theorem dL_law_902 : decode cL_law 902 = .ok (.iconst 1, 1) := by decide +kernel
theorem dL_law_903 : decode cL_law 903 = .ok (.iadd, 1) := by decide +kernel
theorem dL_law_904 : decode cL_law 904 = .ok (.iaload, 1) := by decide +kernel
theorem dL_law_905 : decode cL_law 905 = .ok (.aload_n 0, 1) := by decide +kernel
theorem dL_law_906 : decode cL_law 906 = .ok (.iload 4, 2) := by decide +kernel
theorem dL_law_908 : decode cL_law 908 = .ok (.iconst 2, 1) := by decide +kernel
theorem dL_law_909 : decode cL_law 909 = .ok (.iadd, 1) := by decide +kernel
theorem dL_law_910 : decode cL_law 910 = .ok (.iaload, 1) := by decide +kernel
theorem dL_law_911 : decode cL_law 911 = .ok (.invokevirtual 143, 3) := by decide +kernel
theorem dL_law_914 : decode cL_law 914 = .ok (.istore 6, 2) := by decide +kernel
theorem dL_law_916 : decode cL_law 916 = .ok (.aload_n 2, 1) := by decide +kernel
theorem dL_law_917 : decode cL_law 917 = .ok (.invokevirtual 106, 3) := by decide +kernel
theorem dL_law_920 : decode cL_law 920 = .ok (.iload 5, 2) := by decide +kernel
theorem dL_law_922 : decode cL_law 922 = .ok (.if_icmp .eq 5, 3) := by decide +kernel
theorem dL_law_925 : decode cL_law 925 = .ok (.iconst 0, 1) := by decide +kernel
theorem dL_law_926 : decode cL_law 926 = .ok (.ireturn, 1) := by decide +kernel
theorem dL_law_927 : decode cL_law 927 = .ok (.iload 5, 2) := by decide +kernel
theorem dL_law_929 : decode cL_law 929 = .ok (.ifCond .ne 15, 3) := by decide +kernel
theorem dL_law_932 : decode cL_law 932 = .ok (.aload_n 3, 1) := by decide +kernel
theorem dL_law_933 : decode cL_law 933 = .ok (.iconst 0, 1) := by decide +kernel
theorem dL_law_934 : decode cL_law 934 = .ok (.laload, 1) := by decide +kernel
theorem dL_law_935 : decode cL_law 935 = .ok (.iload 6, 2) := by decide +kernel
theorem dL_law_937 : decode cL_law 937 = .ok (.i2l, 1) := by decide +kernel
theorem dL_law_938 : decode cL_law 938 = .ok (.lcmp, 1) := by decide +kernel
theorem dL_law_939 : decode cL_law 939 = .ok (.ifCond .eq 5, 3) := by decide +kernel
theorem dL_law_942 : decode cL_law 942 = .ok (.iconst 0, 1) := by decide +kernel
theorem dL_law_943 : decode cL_law 943 = .ok (.ireturn, 1) := by decide +kernel
theorem dL_law_944 : decode cL_law 944 = .ok (.goto 1135, 3) := by decide +kernel
theorem dL_law_947 : decode cL_law 947 = .ok (.aload_n 1, 1) := by decide +kernel
theorem dL_law_948 : decode cL_law 948 = .ok (.aload_n 0, 1) := by decide +kernel
theorem dL_law_949 : decode cL_law 949 = .ok (.iload 4, 2) := by decide +kernel
theorem dL_law_951 : decode cL_law 951 = .ok (.iconst 1, 1) := by decide +kernel
theorem dL_law_952 : decode cL_law 952 = .ok (.iadd, 1) := by decide +kernel
theorem dL_law_953 : decode cL_law 953 = .ok (.iaload, 1) := by decide +kernel
theorem dL_law_954 : decode cL_law 954 = .ok (.aload_n 0, 1) := by decide +kernel
theorem dL_law_955 : decode cL_law 955 = .ok (.iload 4, 2) := by decide +kernel
theorem dL_law_957 : decode cL_law 957 = .ok (.iconst 2, 1) := by decide +kernel
theorem dL_law_958 : decode cL_law 958 = .ok (.iadd, 1) := by decide +kernel
theorem dL_law_959 : decode cL_law 959 = .ok (.iaload, 1) := by decide +kernel
theorem dL_law_960 : decode cL_law 960 = .ok (.aload_n 0, 1) := by decide +kernel
theorem dL_law_961 : decode cL_law 961 = .ok (.iload 4, 2) := by decide +kernel
theorem dL_law_963 : decode cL_law 963 = .ok (.iconst 3, 1) := by decide +kernel
theorem dL_law_964 : decode cL_law 964 = .ok (.iadd, 1) := by decide +kernel
theorem dL_law_965 : decode cL_law 965 = .ok (.iaload, 1) := by decide +kernel
theorem dL_law_966 : decode cL_law 966 = .ok (.i2l, 1) := by decide +kernel
theorem dL_law_967 : decode cL_law 967 = .ok (.bipush 32, 2) := by decide +kernel
theorem dL_law_969 : decode cL_law 969 = .ok (.lshl, 1) := by decide +kernel
theorem dL_law_970 : decode cL_law 970 = .ok (.aload_n 0, 1) := by decide +kernel
theorem dL_law_971 : decode cL_law 971 = .ok (.iload 4, 2) := by decide +kernel
theorem dL_law_973 : decode cL_law 973 = .ok (.iconst 4, 1) := by decide +kernel
theorem dL_law_974 : decode cL_law 974 = .ok (.iadd, 1) := by decide +kernel
theorem dL_law_975 : decode cL_law 975 = .ok (.iaload, 1) := by decide +kernel
theorem dL_law_976 : decode cL_law 976 = .ok (.i2l, 1) := by decide +kernel
theorem dL_law_977 : decode cL_law 977 = .ok (.ldc2_w 125, 3) := by decide +kernel
theorem dL_law_980 : decode cL_law 980 = .ok (.land, 1) := by decide +kernel
theorem dL_law_981 : decode cL_law 981 = .ok (.lor, 1) := by decide +kernel
theorem dL_law_982 : decode cL_law 982 = .ok (.aload_n 0, 1) := by decide +kernel
theorem dL_law_983 : decode cL_law 983 = .ok (.iload 4, 2) := by decide +kernel
theorem dL_law_985 : decode cL_law 985 = .ok (.iconst 5, 1) := by decide +kernel
theorem dL_law_986 : decode cL_law 986 = .ok (.iadd, 1) := by decide +kernel
theorem dL_law_987 : decode cL_law 987 = .ok (.iaload, 1) := by decide +kernel
theorem dL_law_988 : decode cL_law 988 = .ok (.aload_n 3, 1) := by decide +kernel
theorem dL_law_989 : decode cL_law 989 = .ok (.invokestatic 144, 3) := by decide +kernel
theorem dL_law_992 : decode cL_law 992 = .ok (.istore 5, 2) := by decide +kernel
theorem dL_law_994 : decode cL_law 994 = .ok (.aload_n 2, 1) := by decide +kernel
theorem dL_law_995 : decode cL_law 995 = .ok (.aload_n 0, 1) := by decide +kernel
theorem dL_law_996 : decode cL_law 996 = .ok (.iload 4, 2) := by decide +kernel
theorem dL_law_998 : decode cL_law 998 = .ok (.iconst 1, 1) := by decide +kernel
theorem dL_law_999 : decode cL_law 999 = .ok (.iadd, 1) := by decide +kernel
theorem dL_law_1000 : decode cL_law 1000 = .ok (.iaload, 1) := by decide +kernel
theorem dL_law_1001 : decode cL_law 1001 = .ok (.aload_n 0, 1) := by decide +kernel
theorem dL_law_1002 : decode cL_law 1002 = .ok (.iload 4, 2) := by decide +kernel
theorem dL_law_1004 : decode cL_law 1004 = .ok (.iconst 2, 1) := by decide +kernel
theorem dL_law_1005 : decode cL_law 1005 = .ok (.iadd, 1) := by decide +kernel
theorem dL_law_1006 : decode cL_law 1006 = .ok (.iaload, 1) := by decide +kernel
theorem dL_law_1007 : decode cL_law 1007 = .ok (.aload_n 0, 1) := by decide +kernel
theorem dL_law_1008 : decode cL_law 1008 = .ok (.iload 4, 2) := by decide +kernel
theorem dL_law_1010 : decode cL_law 1010 = .ok (.iconst 3, 1) := by decide +kernel
theorem dL_law_1011 : decode cL_law 1011 = .ok (.iadd, 1) := by decide +kernel
theorem dL_law_1012 : decode cL_law 1012 = .ok (.iaload, 1) := by decide +kernel
theorem dL_law_1013 : decode cL_law 1013 = .ok (.i2l, 1) := by decide +kernel
theorem dL_law_1014 : decode cL_law 1014 = .ok (.bipush 32, 2) := by decide +kernel
theorem dL_law_1016 : decode cL_law 1016 = .ok (.lshl, 1) := by decide +kernel
theorem dL_law_1017 : decode cL_law 1017 = .ok (.aload_n 0, 1) := by decide +kernel
theorem dL_law_1018 : decode cL_law 1018 = .ok (.iload 4, 2) := by decide +kernel
theorem dL_law_1020 : decode cL_law 1020 = .ok (.iconst 4, 1) := by decide +kernel
theorem dL_law_1021 : decode cL_law 1021 = .ok (.iadd, 1) := by decide +kernel
theorem dL_law_1022 : decode cL_law 1022 = .ok (.iaload, 1) := by decide +kernel
theorem dL_law_1023 : decode cL_law 1023 = .ok (.i2l, 1) := by decide +kernel
theorem dL_law_1024 : decode cL_law 1024 = .ok (.ldc2_w 125, 3) := by decide +kernel
theorem dL_law_1027 : decode cL_law 1027 = .ok (.land, 1) := by decide +kernel
theorem dL_law_1028 : decode cL_law 1028 = .ok (.lor, 1) := by decide +kernel
theorem dL_law_1029 : decode cL_law 1029 = .ok (.aload_n 0, 1) := by decide +kernel
theorem dL_law_1030 : decode cL_law 1030 = .ok (.iload 4, 2) := by decide +kernel
theorem dL_law_1032 : decode cL_law 1032 = .ok (.iconst 5, 1) := by decide +kernel
theorem dL_law_1033 : decode cL_law 1033 = .ok (.iadd, 1) := by decide +kernel
theorem dL_law_1034 : decode cL_law 1034 = .ok (.iaload, 1) := by decide +kernel
theorem dL_law_1035 : decode cL_law 1035 = .ok (.invokevirtual 147, 3) := by decide +kernel
theorem dL_law_1038 : decode cL_law 1038 = .ok (.istore 6, 2) := by decide +kernel
theorem dL_law_1040 : decode cL_law 1040 = .ok (.aload_n 2, 1) := by decide +kernel
theorem dL_law_1041 : decode cL_law 1041 = .ok (.invokevirtual 106, 3) := by decide +kernel
theorem dL_law_1044 : decode cL_law 1044 = .ok (.iload 5, 2) := by decide +kernel
theorem dL_law_1046 : decode cL_law 1046 = .ok (.if_icmp .eq 5, 3) := by decide +kernel
theorem dL_law_1049 : decode cL_law 1049 = .ok (.iconst 0, 1) := by decide +kernel
theorem dL_law_1050 : decode cL_law 1050 = .ok (.ireturn, 1) := by decide +kernel
theorem dL_law_1051 : decode cL_law 1051 = .ok (.iload 5, 2) := by decide +kernel
theorem dL_law_1053 : decode cL_law 1053 = .ok (.ifCond .ne 15, 3) := by decide +kernel
theorem dL_law_1056 : decode cL_law 1056 = .ok (.aload_n 3, 1) := by decide +kernel
theorem dL_law_1057 : decode cL_law 1057 = .ok (.iconst 0, 1) := by decide +kernel
theorem dL_law_1058 : decode cL_law 1058 = .ok (.laload, 1) := by decide +kernel
theorem dL_law_1059 : decode cL_law 1059 = .ok (.iload 6, 2) := by decide +kernel
theorem dL_law_1061 : decode cL_law 1061 = .ok (.i2l, 1) := by decide +kernel
theorem dL_law_1062 : decode cL_law 1062 = .ok (.lcmp, 1) := by decide +kernel
theorem dL_law_1063 : decode cL_law 1063 = .ok (.ifCond .eq 5, 3) := by decide +kernel
theorem dL_law_1066 : decode cL_law 1066 = .ok (.iconst 0, 1) := by decide +kernel
theorem dL_law_1067 : decode cL_law 1067 = .ok (.ireturn, 1) := by decide +kernel
theorem dL_law_1068 : decode cL_law 1068 = .ok (.goto 1011, 3) := by decide +kernel
theorem dL_law_1071 : decode cL_law 1071 = .ok (.aload_n 1, 1) := by decide +kernel
theorem dL_law_1072 : decode cL_law 1072 = .ok (.aload_n 0, 1) := by decide +kernel
theorem dL_law_1073 : decode cL_law 1073 = .ok (.iload 4, 2) := by decide +kernel
theorem dL_law_1075 : decode cL_law 1075 = .ok (.iconst 1, 1) := by decide +kernel
theorem dL_law_1076 : decode cL_law 1076 = .ok (.iadd, 1) := by decide +kernel
theorem dL_law_1077 : decode cL_law 1077 = .ok (.iaload, 1) := by decide +kernel
theorem dL_law_1078 : decode cL_law 1078 = .ok (.aload_n 0, 1) := by decide +kernel
theorem dL_law_1079 : decode cL_law 1079 = .ok (.iload 4, 2) := by decide +kernel
theorem dL_law_1081 : decode cL_law 1081 = .ok (.iconst 2, 1) := by decide +kernel
theorem dL_law_1082 : decode cL_law 1082 = .ok (.iadd, 1) := by decide +kernel
theorem dL_law_1083 : decode cL_law 1083 = .ok (.iaload, 1) := by decide +kernel
theorem dL_law_1084 : decode cL_law 1084 = .ok (.aload_n 0, 1) := by decide +kernel
theorem dL_law_1085 : decode cL_law 1085 = .ok (.iload 4, 2) := by decide +kernel
theorem dL_law_1087 : decode cL_law 1087 = .ok (.iconst 3, 1) := by decide +kernel
theorem dL_law_1088 : decode cL_law 1088 = .ok (.iadd, 1) := by decide +kernel
theorem dL_law_1089 : decode cL_law 1089 = .ok (.iaload, 1) := by decide +kernel
theorem dL_law_1090 : decode cL_law 1090 = .ok (.aload_n 0, 1) := by decide +kernel
theorem dL_law_1091 : decode cL_law 1091 = .ok (.iload 4, 2) := by decide +kernel
theorem dL_law_1093 : decode cL_law 1093 = .ok (.iconst 4, 1) := by decide +kernel
theorem dL_law_1094 : decode cL_law 1094 = .ok (.iadd, 1) := by decide +kernel
theorem dL_law_1095 : decode cL_law 1095 = .ok (.iaload, 1) := by decide +kernel
theorem dL_law_1096 : decode cL_law 1096 = .ok (.aload_n 0, 1) := by decide +kernel
theorem dL_law_1097 : decode cL_law 1097 = .ok (.iload 4, 2) := by decide +kernel
theorem dL_law_1099 : decode cL_law 1099 = .ok (.iconst 5, 1) := by decide +kernel
theorem dL_law_1100 : decode cL_law 1100 = .ok (.iadd, 1) := by decide +kernel
theorem dL_law_1101 : decode cL_law 1101 = .ok (.iaload, 1) := by decide +kernel
theorem dL_law_1102 : decode cL_law 1102 = .ok (.aload_n 3, 1) := by decide +kernel
theorem dL_law_1103 : decode cL_law 1103 = .ok (.invokestatic 148, 3) := by decide +kernel
theorem dL_law_1106 : decode cL_law 1106 = .ok (.istore 5, 2) := by decide +kernel
theorem dL_law_1108 : decode cL_law 1108 = .ok (.aload_n 2, 1) := by decide +kernel
theorem dL_law_1109 : decode cL_law 1109 = .ok (.aload_n 0, 1) := by decide +kernel
theorem dL_law_1110 : decode cL_law 1110 = .ok (.iload 4, 2) := by decide +kernel
theorem dL_law_1112 : decode cL_law 1112 = .ok (.iconst 1, 1) := by decide +kernel
theorem dL_law_1113 : decode cL_law 1113 = .ok (.iadd, 1) := by decide +kernel
theorem dL_law_1114 : decode cL_law 1114 = .ok (.iaload, 1) := by decide +kernel
theorem dL_law_1115 : decode cL_law 1115 = .ok (.aload_n 0, 1) := by decide +kernel
theorem dL_law_1116 : decode cL_law 1116 = .ok (.iload 4, 2) := by decide +kernel
theorem dL_law_1118 : decode cL_law 1118 = .ok (.iconst 2, 1) := by decide +kernel
theorem dL_law_1119 : decode cL_law 1119 = .ok (.iadd, 1) := by decide +kernel
theorem dL_law_1120 : decode cL_law 1120 = .ok (.iaload, 1) := by decide +kernel
theorem dL_law_1121 : decode cL_law 1121 = .ok (.aload_n 0, 1) := by decide +kernel
theorem dL_law_1122 : decode cL_law 1122 = .ok (.iload 4, 2) := by decide +kernel
theorem dL_law_1124 : decode cL_law 1124 = .ok (.iconst 3, 1) := by decide +kernel
theorem dL_law_1125 : decode cL_law 1125 = .ok (.iadd, 1) := by decide +kernel
theorem dL_law_1126 : decode cL_law 1126 = .ok (.iaload, 1) := by decide +kernel
theorem dL_law_1127 : decode cL_law 1127 = .ok (.aload_n 0, 1) := by decide +kernel
theorem dL_law_1128 : decode cL_law 1128 = .ok (.iload 4, 2) := by decide +kernel
theorem dL_law_1130 : decode cL_law 1130 = .ok (.iconst 4, 1) := by decide +kernel
theorem dL_law_1131 : decode cL_law 1131 = .ok (.iadd, 1) := by decide +kernel
theorem dL_law_1132 : decode cL_law 1132 = .ok (.iaload, 1) := by decide +kernel
theorem dL_law_1133 : decode cL_law 1133 = .ok (.aload_n 0, 1) := by decide +kernel
theorem dL_law_1134 : decode cL_law 1134 = .ok (.iload 4, 2) := by decide +kernel
theorem dL_law_1136 : decode cL_law 1136 = .ok (.iconst 5, 1) := by decide +kernel
theorem dL_law_1137 : decode cL_law 1137 = .ok (.iadd, 1) := by decide +kernel
theorem dL_law_1138 : decode cL_law 1138 = .ok (.iaload, 1) := by decide +kernel
theorem dL_law_1139 : decode cL_law 1139 = .ok (.invokevirtual 151, 3) := by decide +kernel
theorem dL_law_1142 : decode cL_law 1142 = .ok (.istore 6, 2) := by decide +kernel
theorem dL_law_1144 : decode cL_law 1144 = .ok (.aload_n 2, 1) := by decide +kernel
theorem dL_law_1145 : decode cL_law 1145 = .ok (.invokevirtual 106, 3) := by decide +kernel
theorem dL_law_1148 : decode cL_law 1148 = .ok (.iload 5, 2) := by decide +kernel
theorem dL_law_1150 : decode cL_law 1150 = .ok (.if_icmp .eq 5, 3) := by decide +kernel
theorem dL_law_1153 : decode cL_law 1153 = .ok (.iconst 0, 1) := by decide +kernel
theorem dL_law_1154 : decode cL_law 1154 = .ok (.ireturn, 1) := by decide +kernel
theorem dL_law_1155 : decode cL_law 1155 = .ok (.iload 5, 2) := by decide +kernel
theorem dL_law_1157 : decode cL_law 1157 = .ok (.ifCond .ne 15, 3) := by decide +kernel
theorem dL_law_1160 : decode cL_law 1160 = .ok (.aload_n 3, 1) := by decide +kernel
theorem dL_law_1161 : decode cL_law 1161 = .ok (.iconst 0, 1) := by decide +kernel
theorem dL_law_1162 : decode cL_law 1162 = .ok (.laload, 1) := by decide +kernel
theorem dL_law_1163 : decode cL_law 1163 = .ok (.iload 6, 2) := by decide +kernel
theorem dL_law_1165 : decode cL_law 1165 = .ok (.i2l, 1) := by decide +kernel
theorem dL_law_1166 : decode cL_law 1166 = .ok (.lcmp, 1) := by decide +kernel
theorem dL_law_1167 : decode cL_law 1167 = .ok (.ifCond .eq 5, 3) := by decide +kernel
theorem dL_law_1170 : decode cL_law 1170 = .ok (.iconst 0, 1) := by decide +kernel
theorem dL_law_1171 : decode cL_law 1171 = .ok (.ireturn, 1) := by decide +kernel
theorem dL_law_1172 : decode cL_law 1172 = .ok (.goto 907, 3) := by decide +kernel
theorem dL_law_1175 : decode cL_law 1175 = .ok (.aload_n 1, 1) := by decide +kernel
theorem dL_law_1176 : decode cL_law 1176 = .ok (.aload_n 0, 1) := by decide +kernel
theorem dL_law_1177 : decode cL_law 1177 = .ok (.iload 4, 2) := by decide +kernel
theorem dL_law_1179 : decode cL_law 1179 = .ok (.iconst 1, 1) := by decide +kernel
theorem dL_law_1180 : decode cL_law 1180 = .ok (.iadd, 1) := by decide +kernel
theorem dL_law_1181 : decode cL_law 1181 = .ok (.iaload, 1) := by decide +kernel
theorem dL_law_1182 : decode cL_law 1182 = .ok (.aload_n 0, 1) := by decide +kernel
theorem dL_law_1183 : decode cL_law 1183 = .ok (.iload 4, 2) := by decide +kernel
theorem dL_law_1185 : decode cL_law 1185 = .ok (.iconst 2, 1) := by decide +kernel
theorem dL_law_1186 : decode cL_law 1186 = .ok (.iadd, 1) := by decide +kernel
theorem dL_law_1187 : decode cL_law 1187 = .ok (.iaload, 1) := by decide +kernel
theorem dL_law_1188 : decode cL_law 1188 = .ok (.aload_n 3, 1) := by decide +kernel
theorem dL_law_1189 : decode cL_law 1189 = .ok (.invokestatic 152, 3) := by decide +kernel
theorem dL_law_1192 : decode cL_law 1192 = .ok (.istore 5, 2) := by decide +kernel
theorem dL_law_1194 : decode cL_law 1194 = .ok (.aload_n 2, 1) := by decide +kernel
theorem dL_law_1195 : decode cL_law 1195 = .ok (.aload_n 0, 1) := by decide +kernel
theorem dL_law_1196 : decode cL_law 1196 = .ok (.iload 4, 2) := by decide +kernel
theorem dL_law_1198 : decode cL_law 1198 = .ok (.iconst 1, 1) := by decide +kernel
theorem dL_law_1199 : decode cL_law 1199 = .ok (.iadd, 1) := by decide +kernel
theorem dL_law_1200 : decode cL_law 1200 = .ok (.iaload, 1) := by decide +kernel
theorem dL_law_1201 : decode cL_law 1201 = .ok (.aload_n 0, 1) := by decide +kernel
theorem dL_law_1202 : decode cL_law 1202 = .ok (.iload 4, 2) := by decide +kernel
theorem dL_law_1204 : decode cL_law 1204 = .ok (.iconst 2, 1) := by decide +kernel
theorem dL_law_1205 : decode cL_law 1205 = .ok (.iadd, 1) := by decide +kernel
theorem dL_law_1206 : decode cL_law 1206 = .ok (.iaload, 1) := by decide +kernel
theorem dL_law_1207 : decode cL_law 1207 = .ok (.invokevirtual 154, 3) := by decide +kernel
theorem dL_law_1210 : decode cL_law 1210 = .ok (.istore 6, 2) := by decide +kernel
theorem dL_law_1212 : decode cL_law 1212 = .ok (.aload_n 2, 1) := by decide +kernel
theorem dL_law_1213 : decode cL_law 1213 = .ok (.invokevirtual 106, 3) := by decide +kernel
theorem dL_law_1216 : decode cL_law 1216 = .ok (.iload 5, 2) := by decide +kernel
theorem dL_law_1218 : decode cL_law 1218 = .ok (.if_icmp .eq 5, 3) := by decide +kernel
theorem dL_law_1221 : decode cL_law 1221 = .ok (.iconst 0, 1) := by decide +kernel
theorem dL_law_1222 : decode cL_law 1222 = .ok (.ireturn, 1) := by decide +kernel
theorem dL_law_1223 : decode cL_law 1223 = .ok (.iload 5, 2) := by decide +kernel
theorem dL_law_1225 : decode cL_law 1225 = .ok (.ifCond .ne 15, 3) := by decide +kernel
theorem dL_law_1228 : decode cL_law 1228 = .ok (.aload_n 3, 1) := by decide +kernel
theorem dL_law_1229 : decode cL_law 1229 = .ok (.iconst 0, 1) := by decide +kernel
theorem dL_law_1230 : decode cL_law 1230 = .ok (.laload, 1) := by decide +kernel
theorem dL_law_1231 : decode cL_law 1231 = .ok (.iload 6, 2) := by decide +kernel
theorem dL_law_1233 : decode cL_law 1233 = .ok (.i2l, 1) := by decide +kernel
theorem dL_law_1234 : decode cL_law 1234 = .ok (.lcmp, 1) := by decide +kernel
theorem dL_law_1235 : decode cL_law 1235 = .ok (.ifCond .eq 5, 3) := by decide +kernel
theorem dL_law_1238 : decode cL_law 1238 = .ok (.iconst 0, 1) := by decide +kernel
theorem dL_law_1239 : decode cL_law 1239 = .ok (.ireturn, 1) := by decide +kernel
theorem dL_law_1240 : decode cL_law 1240 = .ok (.goto 839, 3) := by decide +kernel
theorem dL_law_1243 : decode cL_law 1243 = .ok (.aload_n 1, 1) := by decide +kernel
theorem dL_law_1244 : decode cL_law 1244 = .ok (.aload_n 0, 1) := by decide +kernel
theorem dL_law_1245 : decode cL_law 1245 = .ok (.iload 4, 2) := by decide +kernel
theorem dL_law_1247 : decode cL_law 1247 = .ok (.iconst 1, 1) := by decide +kernel
theorem dL_law_1248 : decode cL_law 1248 = .ok (.iadd, 1) := by decide +kernel
theorem dL_law_1249 : decode cL_law 1249 = .ok (.iaload, 1) := by decide +kernel
theorem dL_law_1250 : decode cL_law 1250 = .ok (.aload_n 0, 1) := by decide +kernel
theorem dL_law_1251 : decode cL_law 1251 = .ok (.iload 4, 2) := by decide +kernel
theorem dL_law_1253 : decode cL_law 1253 = .ok (.iconst 2, 1) := by decide +kernel
theorem dL_law_1254 : decode cL_law 1254 = .ok (.iadd, 1) := by decide +kernel
theorem dL_law_1255 : decode cL_law 1255 = .ok (.iaload, 1) := by decide +kernel
theorem dL_law_1256 : decode cL_law 1256 = .ok (.aload_n 0, 1) := by decide +kernel
theorem dL_law_1257 : decode cL_law 1257 = .ok (.iload 4, 2) := by decide +kernel
theorem dL_law_1259 : decode cL_law 1259 = .ok (.iconst 3, 1) := by decide +kernel
theorem dL_law_1260 : decode cL_law 1260 = .ok (.iadd, 1) := by decide +kernel
theorem dL_law_1261 : decode cL_law 1261 = .ok (.iaload, 1) := by decide +kernel
theorem dL_law_1262 : decode cL_law 1262 = .ok (.aload_n 3, 1) := by decide +kernel
theorem dL_law_1263 : decode cL_law 1263 = .ok (.invokestatic 155, 3) := by decide +kernel
theorem dL_law_1266 : decode cL_law 1266 = .ok (.istore 5, 2) := by decide +kernel
theorem dL_law_1268 : decode cL_law 1268 = .ok (.aload_n 2, 1) := by decide +kernel
theorem dL_law_1269 : decode cL_law 1269 = .ok (.aload_n 0, 1) := by decide +kernel
theorem dL_law_1270 : decode cL_law 1270 = .ok (.iload 4, 2) := by decide +kernel
theorem dL_law_1272 : decode cL_law 1272 = .ok (.iconst 1, 1) := by decide +kernel
theorem dL_law_1273 : decode cL_law 1273 = .ok (.iadd, 1) := by decide +kernel
theorem dL_law_1274 : decode cL_law 1274 = .ok (.iaload, 1) := by decide +kernel
theorem dL_law_1275 : decode cL_law 1275 = .ok (.aload_n 0, 1) := by decide +kernel
theorem dL_law_1276 : decode cL_law 1276 = .ok (.iload 4, 2) := by decide +kernel
theorem dL_law_1278 : decode cL_law 1278 = .ok (.iconst 2, 1) := by decide +kernel
theorem dL_law_1279 : decode cL_law 1279 = .ok (.iadd, 1) := by decide +kernel
theorem dL_law_1280 : decode cL_law 1280 = .ok (.iaload, 1) := by decide +kernel
theorem dL_law_1281 : decode cL_law 1281 = .ok (.aload_n 0, 1) := by decide +kernel
theorem dL_law_1282 : decode cL_law 1282 = .ok (.iload 4, 2) := by decide +kernel
theorem dL_law_1284 : decode cL_law 1284 = .ok (.iconst 3, 1) := by decide +kernel
theorem dL_law_1285 : decode cL_law 1285 = .ok (.iadd, 1) := by decide +kernel
theorem dL_law_1286 : decode cL_law 1286 = .ok (.iaload, 1) := by decide +kernel
theorem dL_law_1287 : decode cL_law 1287 = .ok (.invokevirtual 157, 3) := by decide +kernel
theorem dL_law_1290 : decode cL_law 1290 = .ok (.istore 6, 2) := by decide +kernel
theorem dL_law_1292 : decode cL_law 1292 = .ok (.aload_n 2, 1) := by decide +kernel
theorem dL_law_1293 : decode cL_law 1293 = .ok (.invokevirtual 106, 3) := by decide +kernel
theorem dL_law_1296 : decode cL_law 1296 = .ok (.iload 5, 2) := by decide +kernel
theorem dL_law_1298 : decode cL_law 1298 = .ok (.if_icmp .eq 5, 3) := by decide +kernel
theorem dL_law_1301 : decode cL_law 1301 = .ok (.iconst 0, 1) := by decide +kernel
theorem dL_law_1302 : decode cL_law 1302 = .ok (.ireturn, 1) := by decide +kernel
theorem dL_law_1303 : decode cL_law 1303 = .ok (.iload 5, 2) := by decide +kernel
theorem dL_law_1305 : decode cL_law 1305 = .ok (.ifCond .ne 15, 3) := by decide +kernel
theorem dL_law_1308 : decode cL_law 1308 = .ok (.aload_n 3, 1) := by decide +kernel
theorem dL_law_1309 : decode cL_law 1309 = .ok (.iconst 0, 1) := by decide +kernel
theorem dL_law_1310 : decode cL_law 1310 = .ok (.laload, 1) := by decide +kernel
theorem dL_law_1311 : decode cL_law 1311 = .ok (.iload 6, 2) := by decide +kernel
theorem dL_law_1313 : decode cL_law 1313 = .ok (.i2l, 1) := by decide +kernel
theorem dL_law_1314 : decode cL_law 1314 = .ok (.lcmp, 1) := by decide +kernel
theorem dL_law_1315 : decode cL_law 1315 = .ok (.ifCond .eq 5, 3) := by decide +kernel
theorem dL_law_1318 : decode cL_law 1318 = .ok (.iconst 0, 1) := by decide +kernel
theorem dL_law_1319 : decode cL_law 1319 = .ok (.ireturn, 1) := by decide +kernel
theorem dL_law_1320 : decode cL_law 1320 = .ok (.goto 759, 3) := by decide +kernel
theorem dL_law_1323 : decode cL_law 1323 = .ok (.aload_n 1, 1) := by decide +kernel
theorem dL_law_1324 : decode cL_law 1324 = .ok (.aload_n 0, 1) := by decide +kernel
theorem dL_law_1325 : decode cL_law 1325 = .ok (.iload 4, 2) := by decide +kernel
theorem dL_law_1327 : decode cL_law 1327 = .ok (.iconst 1, 1) := by decide +kernel
theorem dL_law_1328 : decode cL_law 1328 = .ok (.iadd, 1) := by decide +kernel
theorem dL_law_1329 : decode cL_law 1329 = .ok (.iaload, 1) := by decide +kernel
theorem dL_law_1330 : decode cL_law 1330 = .ok (.aload_n 0, 1) := by decide +kernel
theorem dL_law_1331 : decode cL_law 1331 = .ok (.iload 4, 2) := by decide +kernel
theorem dL_law_1333 : decode cL_law 1333 = .ok (.iconst 2, 1) := by decide +kernel
theorem dL_law_1334 : decode cL_law 1334 = .ok (.iadd, 1) := by decide +kernel
theorem dL_law_1335 : decode cL_law 1335 = .ok (.iaload, 1) := by decide +kernel
theorem dL_law_1336 : decode cL_law 1336 = .ok (.invokestatic 158, 3) := by decide +kernel
theorem dL_law_1339 : decode cL_law 1339 = .ok (.istore 5, 2) := by decide +kernel
theorem dL_law_1341 : decode cL_law 1341 = .ok (.aload_n 2, 1) := by decide +kernel
theorem dL_law_1342 : decode cL_law 1342 = .ok (.aload_n 0, 1) := by decide +kernel
theorem dL_law_1343 : decode cL_law 1343 = .ok (.iload 4, 2) := by decide +kernel
theorem dL_law_1345 : decode cL_law 1345 = .ok (.iconst 1, 1) := by decide +kernel
theorem dL_law_1346 : decode cL_law 1346 = .ok (.iadd, 1) := by decide +kernel
theorem dL_law_1347 : decode cL_law 1347 = .ok (.iaload, 1) := by decide +kernel
theorem dL_law_1348 : decode cL_law 1348 = .ok (.aload_n 0, 1) := by decide +kernel
theorem dL_law_1349 : decode cL_law 1349 = .ok (.iload 4, 2) := by decide +kernel
theorem dL_law_1351 : decode cL_law 1351 = .ok (.iconst 2, 1) := by decide +kernel
theorem dL_law_1352 : decode cL_law 1352 = .ok (.iadd, 1) := by decide +kernel
theorem dL_law_1353 : decode cL_law 1353 = .ok (.iaload, 1) := by decide +kernel
theorem dL_law_1354 : decode cL_law 1354 = .ok (.invokevirtual 161, 3) := by decide +kernel
theorem dL_law_1357 : decode cL_law 1357 = .ok (.aload_n 2, 1) := by decide +kernel
theorem dL_law_1358 : decode cL_law 1358 = .ok (.invokevirtual 106, 3) := by decide +kernel
theorem dL_law_1361 : decode cL_law 1361 = .ok (.iload 5, 2) := by decide +kernel
theorem dL_law_1363 : decode cL_law 1363 = .ok (.if_icmp .eq 5, 3) := by decide +kernel
theorem dL_law_1366 : decode cL_law 1366 = .ok (.iconst 0, 1) := by decide +kernel
theorem dL_law_1367 : decode cL_law 1367 = .ok (.ireturn, 1) := by decide +kernel
theorem dL_law_1368 : decode cL_law 1368 = .ok (.goto 711, 3) := by decide +kernel
theorem dL_law_1371 : decode cL_law 1371 = .ok (.aload_n 1, 1) := by decide +kernel
theorem dL_law_1372 : decode cL_law 1372 = .ok (.aload_n 0, 1) := by decide +kernel
theorem dL_law_1373 : decode cL_law 1373 = .ok (.iload 4, 2) := by decide +kernel
theorem dL_law_1375 : decode cL_law 1375 = .ok (.iconst 1, 1) := by decide +kernel
theorem dL_law_1376 : decode cL_law 1376 = .ok (.iadd, 1) := by decide +kernel
theorem dL_law_1377 : decode cL_law 1377 = .ok (.iaload, 1) := by decide +kernel
theorem dL_law_1378 : decode cL_law 1378 = .ok (.aload_n 0, 1) := by decide +kernel
theorem dL_law_1379 : decode cL_law 1379 = .ok (.iload 4, 2) := by decide +kernel
theorem dL_law_1381 : decode cL_law 1381 = .ok (.iconst 2, 1) := by decide +kernel
theorem dL_law_1382 : decode cL_law 1382 = .ok (.iadd, 1) := by decide +kernel
theorem dL_law_1383 : decode cL_law 1383 = .ok (.iaload, 1) := by decide +kernel
theorem dL_law_1384 : decode cL_law 1384 = .ok (.invokestatic 162, 3) := by decide +kernel
theorem dL_law_1387 : decode cL_law 1387 = .ok (.istore 5, 2) := by decide +kernel
theorem dL_law_1389 : decode cL_law 1389 = .ok (.aload_n 2, 1) := by decide +kernel
theorem dL_law_1390 : decode cL_law 1390 = .ok (.aload_n 0, 1) := by decide +kernel
theorem dL_law_1391 : decode cL_law 1391 = .ok (.iload 4, 2) := by decide +kernel
theorem dL_law_1393 : decode cL_law 1393 = .ok (.iconst 1, 1) := by decide +kernel
theorem dL_law_1394 : decode cL_law 1394 = .ok (.iadd, 1) := by decide +kernel
theorem dL_law_1395 : decode cL_law 1395 = .ok (.iaload, 1) := by decide +kernel
theorem dL_law_1396 : decode cL_law 1396 = .ok (.aload_n 0, 1) := by decide +kernel
theorem dL_law_1397 : decode cL_law 1397 = .ok (.iload 4, 2) := by decide +kernel
theorem dL_law_1399 : decode cL_law 1399 = .ok (.iconst 2, 1) := by decide +kernel
theorem dL_law_1400 : decode cL_law 1400 = .ok (.iadd, 1) := by decide +kernel
theorem dL_law_1401 : decode cL_law 1401 = .ok (.iaload, 1) := by decide +kernel
theorem dL_law_1402 : decode cL_law 1402 = .ok (.invokevirtual 164, 3) := by decide +kernel
theorem dL_law_1405 : decode cL_law 1405 = .ok (.aload_n 2, 1) := by decide +kernel
theorem dL_law_1406 : decode cL_law 1406 = .ok (.invokevirtual 106, 3) := by decide +kernel
theorem dL_law_1409 : decode cL_law 1409 = .ok (.iload 5, 2) := by decide +kernel
theorem dL_law_1411 : decode cL_law 1411 = .ok (.if_icmp .eq 5, 3) := by decide +kernel
theorem dL_law_1414 : decode cL_law 1414 = .ok (.iconst 0, 1) := by decide +kernel
theorem dL_law_1415 : decode cL_law 1415 = .ok (.ireturn, 1) := by decide +kernel
theorem dL_law_1416 : decode cL_law 1416 = .ok (.goto 663, 3) := by decide +kernel
theorem dL_law_1419 : decode cL_law 1419 = .ok (.aload_n 1, 1) := by decide +kernel
theorem dL_law_1420 : decode cL_law 1420 = .ok (.aload_n 0, 1) := by decide +kernel
theorem dL_law_1421 : decode cL_law 1421 = .ok (.iload 4, 2) := by decide +kernel
theorem dL_law_1423 : decode cL_law 1423 = .ok (.iconst 1, 1) := by decide +kernel
theorem dL_law_1424 : decode cL_law 1424 = .ok (.iadd, 1) := by decide +kernel
theorem dL_law_1425 : decode cL_law 1425 = .ok (.iaload, 1) := by decide +kernel
theorem dL_law_1426 : decode cL_law 1426 = .ok (.aload_n 0, 1) := by decide +kernel
theorem dL_law_1427 : decode cL_law 1427 = .ok (.iload 4, 2) := by decide +kernel
theorem dL_law_1429 : decode cL_law 1429 = .ok (.iconst 2, 1) := by decide +kernel
theorem dL_law_1430 : decode cL_law 1430 = .ok (.iadd, 1) := by decide +kernel
theorem dL_law_1431 : decode cL_law 1431 = .ok (.iaload, 1) := by decide +kernel
theorem dL_law_1432 : decode cL_law 1432 = .ok (.aload_n 0, 1) := by decide +kernel
theorem dL_law_1433 : decode cL_law 1433 = .ok (.iload 4, 2) := by decide +kernel
theorem dL_law_1435 : decode cL_law 1435 = .ok (.iconst 3, 1) := by decide +kernel
theorem dL_law_1436 : decode cL_law 1436 = .ok (.iadd, 1) := by decide +kernel
theorem dL_law_1437 : decode cL_law 1437 = .ok (.iaload, 1) := by decide +kernel
theorem dL_law_1438 : decode cL_law 1438 = .ok (.aload_n 3, 1) := by decide +kernel
theorem dL_law_1439 : decode cL_law 1439 = .ok (.invokestatic 165, 3) := by decide +kernel
theorem dL_law_1442 : decode cL_law 1442 = .ok (.istore 5, 2) := by decide +kernel
theorem dL_law_1444 : decode cL_law 1444 = .ok (.aload_n 2, 1) := by decide +kernel
theorem dL_law_1445 : decode cL_law 1445 = .ok (.aload_n 0, 1) := by decide +kernel
theorem dL_law_1446 : decode cL_law 1446 = .ok (.iload 4, 2) := by decide +kernel
theorem dL_law_1448 : decode cL_law 1448 = .ok (.iconst 1, 1) := by decide +kernel
theorem dL_law_1449 : decode cL_law 1449 = .ok (.iadd, 1) := by decide +kernel
theorem dL_law_1450 : decode cL_law 1450 = .ok (.iaload, 1) := by decide +kernel
theorem dL_law_1451 : decode cL_law 1451 = .ok (.aload_n 0, 1) := by decide +kernel
theorem dL_law_1452 : decode cL_law 1452 = .ok (.iload 4, 2) := by decide +kernel
theorem dL_law_1454 : decode cL_law 1454 = .ok (.iconst 2, 1) := by decide +kernel
theorem dL_law_1455 : decode cL_law 1455 = .ok (.iadd, 1) := by decide +kernel
theorem dL_law_1456 : decode cL_law 1456 = .ok (.iaload, 1) := by decide +kernel
theorem dL_law_1457 : decode cL_law 1457 = .ok (.aload_n 0, 1) := by decide +kernel
theorem dL_law_1458 : decode cL_law 1458 = .ok (.iload 4, 2) := by decide +kernel
theorem dL_law_1460 : decode cL_law 1460 = .ok (.iconst 3, 1) := by decide +kernel
theorem dL_law_1461 : decode cL_law 1461 = .ok (.iadd, 1) := by decide +kernel
theorem dL_law_1462 : decode cL_law 1462 = .ok (.iaload, 1) := by decide +kernel
theorem dL_law_1463 : decode cL_law 1463 = .ok (.invokevirtual 167, 3) := by decide +kernel
theorem dL_law_1466 : decode cL_law 1466 = .ok (.istore 6, 2) := by decide +kernel
theorem dL_law_1468 : decode cL_law 1468 = .ok (.aload_n 2, 1) := by decide +kernel
theorem dL_law_1469 : decode cL_law 1469 = .ok (.invokevirtual 106, 3) := by decide +kernel
theorem dL_law_1472 : decode cL_law 1472 = .ok (.iload 5, 2) := by decide +kernel
theorem dL_law_1474 : decode cL_law 1474 = .ok (.if_icmp .eq 5, 3) := by decide +kernel
theorem dL_law_1477 : decode cL_law 1477 = .ok (.iconst 0, 1) := by decide +kernel
theorem dL_law_1478 : decode cL_law 1478 = .ok (.ireturn, 1) := by decide +kernel
theorem dL_law_1479 : decode cL_law 1479 = .ok (.iload 5, 2) := by decide +kernel
theorem dL_law_1481 : decode cL_law 1481 = .ok (.ifCond .ne 15, 3) := by decide +kernel
theorem dL_law_1484 : decode cL_law 1484 = .ok (.aload_n 3, 1) := by decide +kernel
theorem dL_law_1485 : decode cL_law 1485 = .ok (.iconst 0, 1) := by decide +kernel
theorem dL_law_1486 : decode cL_law 1486 = .ok (.laload, 1) := by decide +kernel
theorem dL_law_1487 : decode cL_law 1487 = .ok (.iload 6, 2) := by decide +kernel
theorem dL_law_1489 : decode cL_law 1489 = .ok (.i2l, 1) := by decide +kernel
theorem dL_law_1490 : decode cL_law 1490 = .ok (.lcmp, 1) := by decide +kernel
theorem dL_law_1491 : decode cL_law 1491 = .ok (.ifCond .eq 5, 3) := by decide +kernel
theorem dL_law_1494 : decode cL_law 1494 = .ok (.iconst 0, 1) := by decide +kernel
theorem dL_law_1495 : decode cL_law 1495 = .ok (.ireturn, 1) := by decide +kernel
theorem dL_law_1496 : decode cL_law 1496 = .ok (.goto 583, 3) := by decide +kernel
theorem dL_law_1499 : decode cL_law 1499 = .ok (.aload_n 1, 1) := by decide +kernel
theorem dL_law_1500 : decode cL_law 1500 = .ok (.aload_n 0, 1) := by decide +kernel
theorem dL_law_1501 : decode cL_law 1501 = .ok (.iload 4, 2) := by decide +kernel
theorem dL_law_1503 : decode cL_law 1503 = .ok (.iconst 1, 1) := by decide +kernel
theorem dL_law_1504 : decode cL_law 1504 = .ok (.iadd, 1) := by decide +kernel
theorem dL_law_1505 : decode cL_law 1505 = .ok (.iaload, 1) := by decide +kernel
theorem dL_law_1506 : decode cL_law 1506 = .ok (.aload_n 0, 1) := by decide +kernel
theorem dL_law_1507 : decode cL_law 1507 = .ok (.iload 4, 2) := by decide +kernel
theorem dL_law_1509 : decode cL_law 1509 = .ok (.iconst 2, 1) := by decide +kernel
theorem dL_law_1510 : decode cL_law 1510 = .ok (.iadd, 1) := by decide +kernel
theorem dL_law_1511 : decode cL_law 1511 = .ok (.iaload, 1) := by decide +kernel
theorem dL_law_1512 : decode cL_law 1512 = .ok (.aload_n 0, 1) := by decide +kernel
theorem dL_law_1513 : decode cL_law 1513 = .ok (.iload 4, 2) := by decide +kernel
theorem dL_law_1515 : decode cL_law 1515 = .ok (.iconst 3, 1) := by decide +kernel
theorem dL_law_1516 : decode cL_law 1516 = .ok (.iadd, 1) := by decide +kernel
theorem dL_law_1517 : decode cL_law 1517 = .ok (.iaload, 1) := by decide +kernel
theorem dL_law_1518 : decode cL_law 1518 = .ok (.aload_n 3, 1) := by decide +kernel
theorem dL_law_1519 : decode cL_law 1519 = .ok (.invokestatic 168, 3) := by decide +kernel
theorem dL_law_1522 : decode cL_law 1522 = .ok (.istore 5, 2) := by decide +kernel
theorem dL_law_1524 : decode cL_law 1524 = .ok (.aload_n 2, 1) := by decide +kernel
theorem dL_law_1525 : decode cL_law 1525 = .ok (.aload_n 0, 1) := by decide +kernel
theorem dL_law_1526 : decode cL_law 1526 = .ok (.iload 4, 2) := by decide +kernel
theorem dL_law_1528 : decode cL_law 1528 = .ok (.iconst 1, 1) := by decide +kernel
theorem dL_law_1529 : decode cL_law 1529 = .ok (.iadd, 1) := by decide +kernel
theorem dL_law_1530 : decode cL_law 1530 = .ok (.iaload, 1) := by decide +kernel
theorem dL_law_1531 : decode cL_law 1531 = .ok (.aload_n 0, 1) := by decide +kernel
theorem dL_law_1532 : decode cL_law 1532 = .ok (.iload 4, 2) := by decide +kernel
theorem dL_law_1534 : decode cL_law 1534 = .ok (.iconst 2, 1) := by decide +kernel
theorem dL_law_1535 : decode cL_law 1535 = .ok (.iadd, 1) := by decide +kernel
theorem dL_law_1536 : decode cL_law 1536 = .ok (.iaload, 1) := by decide +kernel
theorem dL_law_1537 : decode cL_law 1537 = .ok (.aload_n 0, 1) := by decide +kernel
theorem dL_law_1538 : decode cL_law 1538 = .ok (.iload 4, 2) := by decide +kernel
theorem dL_law_1540 : decode cL_law 1540 = .ok (.iconst 3, 1) := by decide +kernel
theorem dL_law_1541 : decode cL_law 1541 = .ok (.iadd, 1) := by decide +kernel
theorem dL_law_1542 : decode cL_law 1542 = .ok (.iaload, 1) := by decide +kernel
theorem dL_law_1543 : decode cL_law 1543 = .ok (.invokevirtual 170, 3) := by decide +kernel
theorem dL_law_1546 : decode cL_law 1546 = .ok (.istore 6, 2) := by decide +kernel
theorem dL_law_1548 : decode cL_law 1548 = .ok (.aload_n 2, 1) := by decide +kernel
theorem dL_law_1549 : decode cL_law 1549 = .ok (.invokevirtual 106, 3) := by decide +kernel
theorem dL_law_1552 : decode cL_law 1552 = .ok (.iload 5, 2) := by decide +kernel
theorem dL_law_1554 : decode cL_law 1554 = .ok (.if_icmp .eq 5, 3) := by decide +kernel
theorem dL_law_1557 : decode cL_law 1557 = .ok (.iconst 0, 1) := by decide +kernel
theorem dL_law_1558 : decode cL_law 1558 = .ok (.ireturn, 1) := by decide +kernel
theorem dL_law_1559 : decode cL_law 1559 = .ok (.iload 5, 2) := by decide +kernel
theorem dL_law_1561 : decode cL_law 1561 = .ok (.ifCond .ne 15, 3) := by decide +kernel
theorem dL_law_1564 : decode cL_law 1564 = .ok (.aload_n 3, 1) := by decide +kernel
theorem dL_law_1565 : decode cL_law 1565 = .ok (.iconst 0, 1) := by decide +kernel
theorem dL_law_1566 : decode cL_law 1566 = .ok (.laload, 1) := by decide +kernel
theorem dL_law_1567 : decode cL_law 1567 = .ok (.iload 6, 2) := by decide +kernel
theorem dL_law_1569 : decode cL_law 1569 = .ok (.i2l, 1) := by decide +kernel
theorem dL_law_1570 : decode cL_law 1570 = .ok (.lcmp, 1) := by decide +kernel
theorem dL_law_1571 : decode cL_law 1571 = .ok (.ifCond .eq 5, 3) := by decide +kernel
theorem dL_law_1574 : decode cL_law 1574 = .ok (.iconst 0, 1) := by decide +kernel
theorem dL_law_1575 : decode cL_law 1575 = .ok (.ireturn, 1) := by decide +kernel
theorem dL_law_1576 : decode cL_law 1576 = .ok (.goto 503, 3) := by decide +kernel
theorem dL_law_1579 : decode cL_law 1579 = .ok (.aload_n 1, 1) := by decide +kernel
theorem dL_law_1580 : decode cL_law 1580 = .ok (.aload_n 0, 1) := by decide +kernel
theorem dL_law_1581 : decode cL_law 1581 = .ok (.iload 4, 2) := by decide +kernel
theorem dL_law_1583 : decode cL_law 1583 = .ok (.iconst 1, 1) := by decide +kernel
theorem dL_law_1584 : decode cL_law 1584 = .ok (.iadd, 1) := by decide +kernel
theorem dL_law_1585 : decode cL_law 1585 = .ok (.iaload, 1) := by decide +kernel
theorem dL_law_1586 : decode cL_law 1586 = .ok (.aload_n 0, 1) := by decide +kernel
theorem dL_law_1587 : decode cL_law 1587 = .ok (.iload 4, 2) := by decide +kernel
theorem dL_law_1589 : decode cL_law 1589 = .ok (.iconst 2, 1) := by decide +kernel
theorem dL_law_1590 : decode cL_law 1590 = .ok (.iadd, 1) := by decide +kernel
theorem dL_law_1591 : decode cL_law 1591 = .ok (.iaload, 1) := by decide +kernel
theorem dL_law_1592 : decode cL_law 1592 = .ok (.aload_n 0, 1) := by decide +kernel
theorem dL_law_1593 : decode cL_law 1593 = .ok (.iload 4, 2) := by decide +kernel
theorem dL_law_1595 : decode cL_law 1595 = .ok (.iconst 3, 1) := by decide +kernel
theorem dL_law_1596 : decode cL_law 1596 = .ok (.iadd, 1) := by decide +kernel
theorem dL_law_1597 : decode cL_law 1597 = .ok (.iaload, 1) := by decide +kernel
theorem dL_law_1598 : decode cL_law 1598 = .ok (.aload_n 3, 1) := by decide +kernel
theorem dL_law_1599 : decode cL_law 1599 = .ok (.invokestatic 171, 3) := by decide +kernel
theorem dL_law_1602 : decode cL_law 1602 = .ok (.istore 5, 2) := by decide +kernel
theorem dL_law_1604 : decode cL_law 1604 = .ok (.aload_n 2, 1) := by decide +kernel
theorem dL_law_1605 : decode cL_law 1605 = .ok (.aload_n 0, 1) := by decide +kernel
theorem dL_law_1606 : decode cL_law 1606 = .ok (.iload 4, 2) := by decide +kernel
theorem dL_law_1608 : decode cL_law 1608 = .ok (.iconst 1, 1) := by decide +kernel
theorem dL_law_1609 : decode cL_law 1609 = .ok (.iadd, 1) := by decide +kernel
theorem dL_law_1610 : decode cL_law 1610 = .ok (.iaload, 1) := by decide +kernel
theorem dL_law_1611 : decode cL_law 1611 = .ok (.aload_n 0, 1) := by decide +kernel
theorem dL_law_1612 : decode cL_law 1612 = .ok (.iload 4, 2) := by decide +kernel
theorem dL_law_1614 : decode cL_law 1614 = .ok (.iconst 2, 1) := by decide +kernel
theorem dL_law_1615 : decode cL_law 1615 = .ok (.iadd, 1) := by decide +kernel
theorem dL_law_1616 : decode cL_law 1616 = .ok (.iaload, 1) := by decide +kernel
theorem dL_law_1617 : decode cL_law 1617 = .ok (.aload_n 0, 1) := by decide +kernel
theorem dL_law_1618 : decode cL_law 1618 = .ok (.iload 4, 2) := by decide +kernel
theorem dL_law_1620 : decode cL_law 1620 = .ok (.iconst 3, 1) := by decide +kernel
theorem dL_law_1621 : decode cL_law 1621 = .ok (.iadd, 1) := by decide +kernel
theorem dL_law_1622 : decode cL_law 1622 = .ok (.iaload, 1) := by decide +kernel
theorem dL_law_1623 : decode cL_law 1623 = .ok (.invokevirtual 173, 3) := by decide +kernel
theorem dL_law_1626 : decode cL_law 1626 = .ok (.istore 6, 2) := by decide +kernel
theorem dL_law_1628 : decode cL_law 1628 = .ok (.aload_n 2, 1) := by decide +kernel
theorem dL_law_1629 : decode cL_law 1629 = .ok (.invokevirtual 106, 3) := by decide +kernel
theorem dL_law_1632 : decode cL_law 1632 = .ok (.iload 5, 2) := by decide +kernel
theorem dL_law_1634 : decode cL_law 1634 = .ok (.if_icmp .eq 5, 3) := by decide +kernel
theorem dL_law_1637 : decode cL_law 1637 = .ok (.iconst 0, 1) := by decide +kernel
theorem dL_law_1638 : decode cL_law 1638 = .ok (.ireturn, 1) := by decide +kernel
theorem dL_law_1639 : decode cL_law 1639 = .ok (.iload 5, 2) := by decide +kernel
theorem dL_law_1641 : decode cL_law 1641 = .ok (.ifCond .ne 22, 3) := by decide +kernel
theorem dL_law_1644 : decode cL_law 1644 = .ok (.aload_n 3, 1) := by decide +kernel
theorem dL_law_1645 : decode cL_law 1645 = .ok (.iconst 0, 1) := by decide +kernel
theorem dL_law_1646 : decode cL_law 1646 = .ok (.laload, 1) := by decide +kernel
theorem dL_law_1647 : decode cL_law 1647 = .ok (.iload 6, 2) := by decide +kernel
theorem dL_law_1649 : decode cL_law 1649 = .ok (.ifCond .eq 7, 3) := by decide +kernel
theorem dL_law_1652 : decode cL_law 1652 = .ok (.lconst 1, 1) := by decide +kernel
theorem dL_law_1653 : decode cL_law 1653 = .ok (.goto 4, 3) := by decide +kernel
theorem dL_law_1656 : decode cL_law 1656 = .ok (.lconst 0, 1) := by decide +kernel
theorem dL_law_1657 : decode cL_law 1657 = .ok (.lcmp, 1) := by decide +kernel
theorem dL_law_1658 : decode cL_law 1658 = .ok (.ifCond .eq 5, 3) := by decide +kernel
theorem dL_law_1661 : decode cL_law 1661 = .ok (.iconst 0, 1) := by decide +kernel
theorem dL_law_1662 : decode cL_law 1662 = .ok (.ireturn, 1) := by decide +kernel
theorem dL_law_1663 : decode cL_law 1663 = .ok (.goto 416, 3) := by decide +kernel
theorem dL_law_1666 : decode cL_law 1666 = .ok (.aload_n 1, 1) := by decide +kernel
theorem dL_law_1667 : decode cL_law 1667 = .ok (.aload_n 0, 1) := by decide +kernel
theorem dL_law_1668 : decode cL_law 1668 = .ok (.iload 4, 2) := by decide +kernel
theorem dL_law_1670 : decode cL_law 1670 = .ok (.iconst 1, 1) := by decide +kernel
theorem dL_law_1671 : decode cL_law 1671 = .ok (.iadd, 1) := by decide +kernel
theorem dL_law_1672 : decode cL_law 1672 = .ok (.iaload, 1) := by decide +kernel
theorem dL_law_1673 : decode cL_law 1673 = .ok (.aload_n 0, 1) := by decide +kernel
theorem dL_law_1674 : decode cL_law 1674 = .ok (.iload 4, 2) := by decide +kernel
theorem dL_law_1676 : decode cL_law 1676 = .ok (.iconst 2, 1) := by decide +kernel
theorem dL_law_1677 : decode cL_law 1677 = .ok (.iadd, 1) := by decide +kernel
theorem dL_law_1678 : decode cL_law 1678 = .ok (.iaload, 1) := by decide +kernel
theorem dL_law_1679 : decode cL_law 1679 = .ok (.aload_n 3, 1) := by decide +kernel
theorem dL_law_1680 : decode cL_law 1680 = .ok (.invokestatic 174, 3) := by decide +kernel
theorem dL_law_1683 : decode cL_law 1683 = .ok (.istore 5, 2) := by decide +kernel
theorem dL_law_1685 : decode cL_law 1685 = .ok (.aload_n 2, 1) := by decide +kernel
theorem dL_law_1686 : decode cL_law 1686 = .ok (.aload_n 0, 1) := by decide +kernel
theorem dL_law_1687 : decode cL_law 1687 = .ok (.iload 4, 2) := by decide +kernel
theorem dL_law_1689 : decode cL_law 1689 = .ok (.iconst 1, 1) := by decide +kernel
theorem dL_law_1690 : decode cL_law 1690 = .ok (.iadd, 1) := by decide +kernel
theorem dL_law_1691 : decode cL_law 1691 = .ok (.iaload, 1) := by decide +kernel
theorem dL_law_1692 : decode cL_law 1692 = .ok (.aload_n 0, 1) := by decide +kernel
theorem dL_law_1693 : decode cL_law 1693 = .ok (.iload 4, 2) := by decide +kernel
theorem dL_law_1695 : decode cL_law 1695 = .ok (.iconst 2, 1) := by decide +kernel
theorem dL_law_1696 : decode cL_law 1696 = .ok (.iadd, 1) := by decide +kernel
theorem dL_law_1697 : decode cL_law 1697 = .ok (.iaload, 1) := by decide +kernel
theorem dL_law_1698 : decode cL_law 1698 = .ok (.invokevirtual 176, 3) := by decide +kernel
theorem dL_law_1701 : decode cL_law 1701 = .ok (.istore 6, 2) := by decide +kernel
theorem dL_law_1703 : decode cL_law 1703 = .ok (.aload_n 2, 1) := by decide +kernel
theorem dL_law_1704 : decode cL_law 1704 = .ok (.invokevirtual 106, 3) := by decide +kernel
theorem dL_law_1707 : decode cL_law 1707 = .ok (.iload 5, 2) := by decide +kernel
theorem dL_law_1709 : decode cL_law 1709 = .ok (.if_icmp .eq 5, 3) := by decide +kernel
theorem dL_law_1712 : decode cL_law 1712 = .ok (.iconst 0, 1) := by decide +kernel
theorem dL_law_1713 : decode cL_law 1713 = .ok (.ireturn, 1) := by decide +kernel
theorem dL_law_1714 : decode cL_law 1714 = .ok (.iload 5, 2) := by decide +kernel
theorem dL_law_1716 : decode cL_law 1716 = .ok (.ifCond .ne 15, 3) := by decide +kernel
theorem dL_law_1719 : decode cL_law 1719 = .ok (.aload_n 3, 1) := by decide +kernel
theorem dL_law_1720 : decode cL_law 1720 = .ok (.iconst 0, 1) := by decide +kernel
theorem dL_law_1721 : decode cL_law 1721 = .ok (.laload, 1) := by decide +kernel
theorem dL_law_1722 : decode cL_law 1722 = .ok (.iload 6, 2) := by decide +kernel
theorem dL_law_1724 : decode cL_law 1724 = .ok (.i2l, 1) := by decide +kernel
theorem dL_law_1725 : decode cL_law 1725 = .ok (.lcmp, 1) := by decide +kernel
theorem dL_law_1726 : decode cL_law 1726 = .ok (.ifCond .eq 5, 3) := by decide +kernel
theorem dL_law_1729 : decode cL_law 1729 = .ok (.iconst 0, 1) := by decide +kernel
theorem dL_law_1730 : decode cL_law 1730 = .ok (.ireturn, 1) := by decide +kernel
theorem dL_law_1731 : decode cL_law 1731 = .ok (.goto 348, 3) := by decide +kernel
theorem dL_law_1734 : decode cL_law 1734 = .ok (.aload_n 1, 1) := by decide +kernel
theorem dL_law_1735 : decode cL_law 1735 = .ok (.aload_n 0, 1) := by decide +kernel
theorem dL_law_1736 : decode cL_law 1736 = .ok (.iload 4, 2) := by decide +kernel
theorem dL_law_1738 : decode cL_law 1738 = .ok (.iconst 1, 1) := by decide +kernel
theorem dL_law_1739 : decode cL_law 1739 = .ok (.iadd, 1) := by decide +kernel
theorem dL_law_1740 : decode cL_law 1740 = .ok (.iaload, 1) := by decide +kernel
theorem dL_law_1741 : decode cL_law 1741 = .ok (.aload_n 0, 1) := by decide +kernel
theorem dL_law_1742 : decode cL_law 1742 = .ok (.iload 4, 2) := by decide +kernel
theorem dL_law_1744 : decode cL_law 1744 = .ok (.iconst 2, 1) := by decide +kernel
theorem dL_law_1745 : decode cL_law 1745 = .ok (.iadd, 1) := by decide +kernel
theorem dL_law_1746 : decode cL_law 1746 = .ok (.iaload, 1) := by decide +kernel
theorem dL_law_1747 : decode cL_law 1747 = .ok (.aload_n 3, 1) := by decide +kernel
theorem dL_law_1748 : decode cL_law 1748 = .ok (.invokestatic 177, 3) := by decide +kernel
theorem dL_law_1751 : decode cL_law 1751 = .ok (.istore 5, 2) := by decide +kernel
theorem dL_law_1753 : decode cL_law 1753 = .ok (.aload_n 2, 1) := by decide +kernel
theorem dL_law_1754 : decode cL_law 1754 = .ok (.aload_n 0, 1) := by decide +kernel
theorem dL_law_1755 : decode cL_law 1755 = .ok (.iload 4, 2) := by decide +kernel
theorem dL_law_1757 : decode cL_law 1757 = .ok (.iconst 1, 1) := by decide +kernel
theorem dL_law_1758 : decode cL_law 1758 = .ok (.iadd, 1) := by decide +kernel
theorem dL_law_1759 : decode cL_law 1759 = .ok (.iaload, 1) := by decide +kernel
theorem dL_law_1760 : decode cL_law 1760 = .ok (.aload_n 0, 1) := by decide +kernel
theorem dL_law_1761 : decode cL_law 1761 = .ok (.iload 4, 2) := by decide +kernel
theorem dL_law_1763 : decode cL_law 1763 = .ok (.iconst 2, 1) := by decide +kernel
theorem dL_law_1764 : decode cL_law 1764 = .ok (.iadd, 1) := by decide +kernel
theorem dL_law_1765 : decode cL_law 1765 = .ok (.iaload, 1) := by decide +kernel
theorem dL_law_1766 : decode cL_law 1766 = .ok (.invokevirtual 179, 3) := by decide +kernel
theorem dL_law_1769 : decode cL_law 1769 = .ok (.istore 6, 2) := by decide +kernel
theorem dL_law_1771 : decode cL_law 1771 = .ok (.aload_n 2, 1) := by decide +kernel
theorem dL_law_1772 : decode cL_law 1772 = .ok (.invokevirtual 106, 3) := by decide +kernel
theorem dL_law_1775 : decode cL_law 1775 = .ok (.iload 5, 2) := by decide +kernel
theorem dL_law_1777 : decode cL_law 1777 = .ok (.if_icmp .eq 5, 3) := by decide +kernel
theorem dL_law_1780 : decode cL_law 1780 = .ok (.iconst 0, 1) := by decide +kernel
theorem dL_law_1781 : decode cL_law 1781 = .ok (.ireturn, 1) := by decide +kernel
theorem dL_law_1782 : decode cL_law 1782 = .ok (.iload 5, 2) := by decide +kernel
theorem dL_law_1784 : decode cL_law 1784 = .ok (.ifCond .ne 15, 3) := by decide +kernel
theorem dL_law_1787 : decode cL_law 1787 = .ok (.aload_n 3, 1) := by decide +kernel
theorem dL_law_1788 : decode cL_law 1788 = .ok (.iconst 0, 1) := by decide +kernel
theorem dL_law_1789 : decode cL_law 1789 = .ok (.laload, 1) := by decide +kernel
theorem dL_law_1790 : decode cL_law 1790 = .ok (.iload 6, 2) := by decide +kernel
theorem dL_law_1792 : decode cL_law 1792 = .ok (.i2l, 1) := by decide +kernel
theorem dL_law_1793 : decode cL_law 1793 = .ok (.lcmp, 1) := by decide +kernel
theorem dL_law_1794 : decode cL_law 1794 = .ok (.ifCond .eq 5, 3) := by decide +kernel
theorem dL_law_1797 : decode cL_law 1797 = .ok (.iconst 0, 1) := by decide +kernel
theorem dL_law_1798 : decode cL_law 1798 = .ok (.ireturn, 1) := by decide +kernel
theorem dL_law_1799 : decode cL_law 1799 = .ok (.goto 280, 3) := by decide +kernel
theorem dL_law_1802 : decode cL_law 1802 = .ok (.aload_n 1, 1) := by decide +kernel
theorem dL_law_1803 : decode cL_law 1803 = .ok (.invokevirtual 180, 3) := by decide +kernel
theorem dL_law_1806 : decode cL_law 1806 = .ok (.aload_n 2, 1) := by decide +kernel
theorem dL_law_1807 : decode cL_law 1807 = .ok (.invokevirtual 183, 3) := by decide +kernel
theorem dL_law_1810 : decode cL_law 1810 = .ok (.if_icmp .eq 269, 3) := by decide +kernel
theorem dL_law_1813 : decode cL_law 1813 = .ok (.iconst 0, 1) := by decide +kernel
theorem dL_law_1814 : decode cL_law 1814 = .ok (.ireturn, 1) := by decide +kernel
theorem dL_law_1815 : decode cL_law 1815 = .ok (.aload_n 1, 1) := by decide +kernel
theorem dL_law_1816 : decode cL_law 1816 = .ok (.invokevirtual 184, 3) := by decide +kernel
theorem dL_law_1819 : decode cL_law 1819 = .ok (.aload_n 2, 1) := by decide +kernel
theorem dL_law_1820 : decode cL_law 1820 = .ok (.invokevirtual 187, 3) := by decide +kernel
theorem dL_law_1823 : decode cL_law 1823 = .ok (.if_icmp .eq 256, 3) := by decide +kernel
theorem dL_law_1826 : decode cL_law 1826 = .ok (.iconst 0, 1) := by decide +kernel
theorem dL_law_1827 : decode cL_law 1827 = .ok (.ireturn, 1) := by decide +kernel
theorem dL_law_1828 : decode cL_law 1828 = .ok (.aload_n 1, 1) := by decide +kernel
theorem dL_law_1829 : decode cL_law 1829 = .ok (.aload_n 0, 1) := by decide +kernel
theorem dL_law_1830 : decode cL_law 1830 = .ok (.iload 4, 2) := by decide +kernel
theorem dL_law_1832 : decode cL_law 1832 = .ok (.iconst 1, 1) := by decide +kernel
theorem dL_law_1833 : decode cL_law 1833 = .ok (.iadd, 1) := by decide +kernel
theorem dL_law_1834 : decode cL_law 1834 = .ok (.iaload, 1) := by decide +kernel
theorem dL_law_1835 : decode cL_law 1835 = .ok (.aload_n 0, 1) := by decide +kernel
theorem dL_law_1836 : decode cL_law 1836 = .ok (.iload 4, 2) := by decide +kernel
theorem dL_law_1838 : decode cL_law 1838 = .ok (.iconst 2, 1) := by decide +kernel
theorem dL_law_1839 : decode cL_law 1839 = .ok (.iadd, 1) := by decide +kernel
theorem dL_law_1840 : decode cL_law 1840 = .ok (.iaload, 1) := by decide +kernel
theorem dL_law_1841 : decode cL_law 1841 = .ok (.aload_n 3, 1) := by decide +kernel
theorem dL_law_1842 : decode cL_law 1842 = .ok (.invokestatic 188, 3) := by decide +kernel
theorem dL_law_1845 : decode cL_law 1845 = .ok (.istore 5, 2) := by decide +kernel
theorem dL_law_1847 : decode cL_law 1847 = .ok (.aload_n 2, 1) := by decide +kernel
theorem dL_law_1848 : decode cL_law 1848 = .ok (.aload_n 0, 1) := by decide +kernel
theorem dL_law_1849 : decode cL_law 1849 = .ok (.iload 4, 2) := by decide +kernel
theorem dL_law_1851 : decode cL_law 1851 = .ok (.iconst 1, 1) := by decide +kernel
theorem dL_law_1852 : decode cL_law 1852 = .ok (.iadd, 1) := by decide +kernel
theorem dL_law_1853 : decode cL_law 1853 = .ok (.iaload, 1) := by decide +kernel
theorem dL_law_1854 : decode cL_law 1854 = .ok (.aload_n 0, 1) := by decide +kernel
theorem dL_law_1855 : decode cL_law 1855 = .ok (.iload 4, 2) := by decide +kernel
theorem dL_law_1857 : decode cL_law 1857 = .ok (.iconst 2, 1) := by decide +kernel
theorem dL_law_1858 : decode cL_law 1858 = .ok (.iadd, 1) := by decide +kernel
theorem dL_law_1859 : decode cL_law 1859 = .ok (.iaload, 1) := by decide +kernel
theorem dL_law_1860 : decode cL_law 1860 = .ok (.invokevirtual 190, 3) := by decide +kernel
theorem dL_law_1863 : decode cL_law 1863 = .ok (.istore 6, 2) := by decide +kernel
theorem dL_law_1865 : decode cL_law 1865 = .ok (.aload_n 2, 1) := by decide +kernel
theorem dL_law_1866 : decode cL_law 1866 = .ok (.invokevirtual 106, 3) := by decide +kernel
theorem dL_law_1869 : decode cL_law 1869 = .ok (.iload 5, 2) := by decide +kernel
theorem dL_law_1871 : decode cL_law 1871 = .ok (.if_icmp .eq 5, 3) := by decide +kernel
theorem dL_law_1874 : decode cL_law 1874 = .ok (.iconst 0, 1) := by decide +kernel
theorem dL_law_1875 : decode cL_law 1875 = .ok (.ireturn, 1) := by decide +kernel
theorem dL_law_1876 : decode cL_law 1876 = .ok (.iload 5, 2) := by decide +kernel
theorem dL_law_1878 : decode cL_law 1878 = .ok (.ifCond .ne 15, 3) := by decide +kernel
theorem dL_law_1881 : decode cL_law 1881 = .ok (.aload_n 3, 1) := by decide +kernel
theorem dL_law_1882 : decode cL_law 1882 = .ok (.iconst 0, 1) := by decide +kernel
theorem dL_law_1883 : decode cL_law 1883 = .ok (.laload, 1) := by decide +kernel
theorem dL_law_1884 : decode cL_law 1884 = .ok (.iload 6, 2) := by decide +kernel
theorem dL_law_1886 : decode cL_law 1886 = .ok (.i2l, 1) := by decide +kernel
theorem dL_law_1887 : decode cL_law 1887 = .ok (.lcmp, 1) := by decide +kernel
theorem dL_law_1888 : decode cL_law 1888 = .ok (.ifCond .eq 5, 3) := by decide +kernel
theorem dL_law_1891 : decode cL_law 1891 = .ok (.iconst 0, 1) := by decide +kernel
theorem dL_law_1892 : decode cL_law 1892 = .ok (.ireturn, 1) := by decide +kernel
theorem dL_law_1893 : decode cL_law 1893 = .ok (.goto 186, 3) := by decide +kernel
theorem dL_law_1896 : decode cL_law 1896 = .ok (.aload_n 1, 1) := by decide +kernel
theorem dL_law_1897 : decode cL_law 1897 = .ok (.invokevirtual 191, 3) := by decide +kernel
theorem dL_law_1900 : decode cL_law 1900 = .ok (.aload_n 2, 1) := by decide +kernel
theorem dL_law_1901 : decode cL_law 1901 = .ok (.invokevirtual 194, 3) := by decide +kernel
theorem dL_law_1904 : decode cL_law 1904 = .ok (.if_icmp .eq 175, 3) := by decide +kernel
theorem dL_law_1907 : decode cL_law 1907 = .ok (.iconst 0, 1) := by decide +kernel
theorem dL_law_1908 : decode cL_law 1908 = .ok (.ireturn, 1) := by decide +kernel
theorem dL_law_1909 : decode cL_law 1909 = .ok (.aload_n 1, 1) := by decide +kernel
theorem dL_law_1910 : decode cL_law 1910 = .ok (.aload_n 0, 1) := by decide +kernel
theorem dL_law_1911 : decode cL_law 1911 = .ok (.iload 4, 2) := by decide +kernel
theorem dL_law_1913 : decode cL_law 1913 = .ok (.iconst 1, 1) := by decide +kernel
theorem dL_law_1914 : decode cL_law 1914 = .ok (.iadd, 1) := by decide +kernel
theorem dL_law_1915 : decode cL_law 1915 = .ok (.iaload, 1) := by decide +kernel
theorem dL_law_1916 : decode cL_law 1916 = .ok (.aload_n 0, 1) := by decide +kernel
theorem dL_law_1917 : decode cL_law 1917 = .ok (.iload 4, 2) := by decide +kernel
theorem dL_law_1919 : decode cL_law 1919 = .ok (.iconst 2, 1) := by decide +kernel
theorem dL_law_1920 : decode cL_law 1920 = .ok (.iadd, 1) := by decide +kernel
theorem dL_law_1921 : decode cL_law 1921 = .ok (.iaload, 1) := by decide +kernel
theorem dL_law_1922 : decode cL_law 1922 = .ok (.aload_n 0, 1) := by decide +kernel
theorem dL_law_1923 : decode cL_law 1923 = .ok (.iload 4, 2) := by decide +kernel
theorem dL_law_1925 : decode cL_law 1925 = .ok (.iconst 3, 1) := by decide +kernel
theorem dL_law_1926 : decode cL_law 1926 = .ok (.iadd, 1) := by decide +kernel
theorem dL_law_1927 : decode cL_law 1927 = .ok (.iaload, 1) := by decide +kernel
theorem dL_law_1928 : decode cL_law 1928 = .ok (.ifCond .eq 7, 3) := by decide +kernel
theorem dL_law_1931 : decode cL_law 1931 = .ok (.iconst 1, 1) := by decide +kernel
theorem dL_law_1932 : decode cL_law 1932 = .ok (.goto 4, 3) := by decide +kernel
theorem dL_law_1935 : decode cL_law 1935 = .ok (.iconst 0, 1) := by decide +kernel
theorem dL_law_1936 : decode cL_law 1936 = .ok (.invokestatic 195, 3) := by decide +kernel
theorem dL_law_1939 : decode cL_law 1939 = .ok (.istore 5, 2) := by decide +kernel
theorem dL_law_1941 : decode cL_law 1941 = .ok (.aload_n 2, 1) := by decide +kernel
theorem dL_law_1942 : decode cL_law 1942 = .ok (.aload_n 0, 1) := by decide +kernel
theorem dL_law_1943 : decode cL_law 1943 = .ok (.iload 4, 2) := by decide +kernel
theorem dL_law_1945 : decode cL_law 1945 = .ok (.iconst 1, 1) := by decide +kernel
theorem dL_law_1946 : decode cL_law 1946 = .ok (.iadd, 1) := by decide +kernel
theorem dL_law_1947 : decode cL_law 1947 = .ok (.iaload, 1) := by decide +kernel
theorem dL_law_1948 : decode cL_law 1948 = .ok (.aload_n 0, 1) := by decide +kernel
theorem dL_law_1949 : decode cL_law 1949 = .ok (.iload 4, 2) := by decide +kernel
theorem dL_law_1951 : decode cL_law 1951 = .ok (.iconst 2, 1) := by decide +kernel
theorem dL_law_1952 : decode cL_law 1952 = .ok (.iadd, 1) := by decide +kernel
theorem dL_law_1953 : decode cL_law 1953 = .ok (.iaload, 1) := by decide +kernel
theorem dL_law_1954 : decode cL_law 1954 = .ok (.aload_n 0, 1) := by decide +kernel
theorem dL_law_1955 : decode cL_law 1955 = .ok (.iload 4, 2) := by decide +kernel
theorem dL_law_1957 : decode cL_law 1957 = .ok (.iconst 3, 1) := by decide +kernel
theorem dL_law_1958 : decode cL_law 1958 = .ok (.iadd, 1) := by decide +kernel
theorem dL_law_1959 : decode cL_law 1959 = .ok (.iaload, 1) := by decide +kernel
theorem dL_law_1960 : decode cL_law 1960 = .ok (.ifCond .eq 7, 3) := by decide +kernel
theorem dL_law_1963 : decode cL_law 1963 = .ok (.iconst 1, 1) := by decide +kernel
theorem dL_law_1964 : decode cL_law 1964 = .ok (.goto 4, 3) := by decide +kernel
theorem dL_law_1967 : decode cL_law 1967 = .ok (.iconst 0, 1) := by decide +kernel
theorem dL_law_1968 : decode cL_law 1968 = .ok (.invokevirtual 198, 3) := by decide +kernel
theorem dL_law_1971 : decode cL_law 1971 = .ok (.aload_n 2, 1) := by decide +kernel
theorem dL_law_1972 : decode cL_law 1972 = .ok (.invokevirtual 106, 3) := by decide +kernel
theorem dL_law_1975 : decode cL_law 1975 = .ok (.iload 5, 2) := by decide +kernel
theorem dL_law_1977 : decode cL_law 1977 = .ok (.if_icmp .eq 5, 3) := by decide +kernel
theorem dL_law_1980 : decode cL_law 1980 = .ok (.iconst 0, 1) := by decide +kernel
theorem dL_law_1981 : decode cL_law 1981 = .ok (.ireturn, 1) := by decide +kernel
theorem dL_law_1982 : decode cL_law 1982 = .ok (.goto 97, 3) := by decide +kernel
theorem dL_law_1985 : decode cL_law 1985 = .ok (.aload_n 1, 1) := by decide +kernel
theorem dL_law_1986 : decode cL_law 1986 = .ok (.aload_n 0, 1) := by decide +kernel
theorem dL_law_1987 : decode cL_law 1987 = .ok (.iload 4, 2) := by decide +kernel
theorem dL_law_1989 : decode cL_law 1989 = .ok (.iconst 1, 1) := by decide +kernel
theorem dL_law_1990 : decode cL_law 1990 = .ok (.iadd, 1) := by decide +kernel
theorem dL_law_1991 : decode cL_law 1991 = .ok (.iaload, 1) := by decide +kernel
theorem dL_law_1992 : decode cL_law 1992 = .ok (.aload_n 0, 1) := by decide +kernel
theorem dL_law_1993 : decode cL_law 1993 = .ok (.iload 4, 2) := by decide +kernel
theorem dL_law_1995 : decode cL_law 1995 = .ok (.iconst 2, 1) := by decide +kernel
theorem dL_law_1996 : decode cL_law 1996 = .ok (.iadd, 1) := by decide +kernel
theorem dL_law_1997 : decode cL_law 1997 = .ok (.iaload, 1) := by decide +kernel
theorem dL_law_1998 : decode cL_law 1998 = .ok (.aload_n 3, 1) := by decide +kernel
theorem dL_law_1999 : decode cL_law 1999 = .ok (.invokestatic 199, 3) := by decide +kernel
theorem dL_law_2002 : decode cL_law 2002 = .ok (.istore 5, 2) := by decide +kernel
theorem dL_law_2004 : decode cL_law 2004 = .ok (.aload_n 2, 1) := by decide +kernel
theorem dL_law_2005 : decode cL_law 2005 = .ok (.aload_n 0, 1) := by decide +kernel
theorem dL_law_2006 : decode cL_law 2006 = .ok (.iload 4, 2) := by decide +kernel
theorem dL_law_2008 : decode cL_law 2008 = .ok (.iconst 1, 1) := by decide +kernel
theorem dL_law_2009 : decode cL_law 2009 = .ok (.iadd, 1) := by decide +kernel
theorem dL_law_2010 : decode cL_law 2010 = .ok (.iaload, 1) := by decide +kernel
theorem dL_law_2011 : decode cL_law 2011 = .ok (.aload_n 0, 1) := by decide +kernel
theorem dL_law_2012 : decode cL_law 2012 = .ok (.iload 4, 2) := by decide +kernel
theorem dL_law_2014 : decode cL_law 2014 = .ok (.iconst 2, 1) := by decide +kernel
theorem dL_law_2015 : decode cL_law 2015 = .ok (.iadd, 1) := by decide +kernel
theorem dL_law_2016 : decode cL_law 2016 = .ok (.iaload, 1) := by decide +kernel
theorem dL_law_2017 : decode cL_law 2017 = .ok (.invokevirtual 201, 3) := by decide +kernel
theorem dL_law_2020 : decode cL_law 2020 = .ok (.istore 6, 2) := by decide +kernel
theorem dL_law_2022 : decode cL_law 2022 = .ok (.aload_n 2, 1) := by decide +kernel
theorem dL_law_2023 : decode cL_law 2023 = .ok (.invokevirtual 106, 3) := by decide +kernel
theorem dL_law_2026 : decode cL_law 2026 = .ok (.iload 5, 2) := by decide +kernel
theorem dL_law_2028 : decode cL_law 2028 = .ok (.if_icmp .eq 5, 3) := by decide +kernel
theorem dL_law_2031 : decode cL_law 2031 = .ok (.iconst 0, 1) := by decide +kernel
theorem dL_law_2032 : decode cL_law 2032 = .ok (.ireturn, 1) := by decide +kernel
theorem dL_law_2033 : decode cL_law 2033 = .ok (.iload 5, 2) := by decide +kernel
theorem dL_law_2035 : decode cL_law 2035 = .ok (.ifCond .ne 15, 3) := by decide +kernel
theorem dL_law_2038 : decode cL_law 2038 = .ok (.aload_n 3, 1) := by decide +kernel
theorem dL_law_2039 : decode cL_law 2039 = .ok (.iconst 0, 1) := by decide +kernel
theorem dL_law_2040 : decode cL_law 2040 = .ok (.laload, 1) := by decide +kernel
theorem dL_law_2041 : decode cL_law 2041 = .ok (.iload 6, 2) := by decide +kernel
theorem dL_law_2043 : decode cL_law 2043 = .ok (.i2l, 1) := by decide +kernel
theorem dL_law_2044 : decode cL_law 2044 = .ok (.lcmp, 1) := by decide +kernel
theorem dL_law_2045 : decode cL_law 2045 = .ok (.ifCond .eq 5, 3) := by decide +kernel
theorem dL_law_2048 : decode cL_law 2048 = .ok (.iconst 0, 1) := by decide +kernel
theorem dL_law_2049 : decode cL_law 2049 = .ok (.ireturn, 1) := by decide +kernel
theorem dL_law_2050 : decode cL_law 2050 = .ok (.goto 29, 3) := by decide +kernel
theorem dL_law_2053 : decode cL_law 2053 = .ok (.aload_n 1, 1) := by decide +kernel
theorem dL_law_2054 : decode cL_law 2054 = .ok (.invokevirtual 202, 3) := by decide +kernel
theorem dL_law_2057 : decode cL_law 2057 = .ok (.aload_n 2, 1) := by decide +kernel
theorem dL_law_2058 : decode cL_law 2058 = .ok (.invokevirtual 205, 3) := by decide +kernel
theorem dL_law_2061 : decode cL_law 2061 = .ok (.if_icmp .eq 18, 3) := by decide +kernel
theorem dL_law_2064 : decode cL_law 2064 = .ok (.iconst 0, 1) := by decide +kernel
theorem dL_law_2065 : decode cL_law 2065 = .ok (.ireturn, 1) := by decide +kernel
theorem dL_law_2066 : decode cL_law 2066 = .ok (.aload_n 1, 1) := by decide +kernel
theorem dL_law_2067 : decode cL_law 2067 = .ok (.invokevirtual 206, 3) := by decide +kernel
theorem dL_law_2070 : decode cL_law 2070 = .ok (.aload_n 2, 1) := by decide +kernel
theorem dL_law_2071 : decode cL_law 2071 = .ok (.invokevirtual 209, 3) := by decide +kernel
theorem dL_law_2074 : decode cL_law 2074 = .ok (.if_icmp .eq 5, 3) := by decide +kernel
theorem dL_law_2077 : decode cL_law 2077 = .ok (.iconst 0, 1) := by decide +kernel
theorem dL_law_2078 : decode cL_law 2078 = .ok (.ireturn, 1) := by decide +kernel
theorem dL_law_2079 : decode cL_law 2079 = .ok (.iinc 4 6, 3) := by decide +kernel
theorem dL_law_2082 : decode cL_law 2082 = .ok (.goto (-2059), 3) := by decide +kernel
theorem dL_law_2085 : decode cL_law 2085 = .ok (.iconst 1, 1) := by decide +kernel
theorem dL_law_2086 : decode cL_law 2086 = .ok (.ireturn, 1) := by decide +kernel
