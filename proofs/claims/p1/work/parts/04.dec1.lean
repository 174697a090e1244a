theorem dX7_put4_0 : decode cX7_put4 0 = .ok (.iload_n 1, 1) := by decide +kernel
theorem dX7_put4_1 : decode cX7_put4 1 = .ok (.ifCond .lt 12, 3) := by decide +kernel
theorem dX7_put4_4 : decode cX7_put4 4 = .ok (.iload_n 1, 1) := by decide +kernel
theorem dX7_put4_5 : decode cX7_put4 5 = .ok (.iconst 4, 1) := by decide +kernel
theorem dX7_put4_6 : decode cX7_put4 6 = .ok (.iadd, 1) := by decide +kernel
theorem dX7_put4_7 : decode cX7_put4 7 = .ok (.sipush 1480, 3) := by decide +kernel
theorem dX7_put4_10 : decode cX7_put4 10 = .ok (.if_icmp .le 4, 3) := by decide +kernel
theorem dX7_put4_13 : decode cX7_put4 13 = .ok (.return_, 1) := by decide +kernel
theorem dX7_put4_14 : decode cX7_put4 14 = .ok (.iconst 0, 1) := by decide +kernel
theorem dX7_put4_15 : decode cX7_put4 15 = .ok (.istore_n 3, 1) := by decide +kernel
theorem dX7_put4_16 : decode cX7_put4 16 = .ok (.iload_n 3, 1) := by decide +kernel
theorem dX7_put4_17 : decode cX7_put4 17 = .ok (.iconst 4, 1) := by decide +kernel
theorem dX7_put4_18 : decode cX7_put4 18 = .ok (.if_icmp .ge 27, 3) := by decide +kernel
theorem dX7_put4_21 : decode cX7_put4 21 = .ok (.aload_n 0, 1) := by decide +kernel
theorem dX7_put4_22 : decode cX7_put4 22 = .ok (.getfield 9, 3) := by decide +kernel
theorem dX7_put4_25 : decode cX7_put4 25 = .ok (.iload_n 1, 1) := by decide +kernel
theorem dX7_put4_26 : decode cX7_put4 26 = .ok (.iload_n 3, 1) := by decide +kernel
theorem dX7_put4_27 : decode cX7_put4 27 = .ok (.iadd, 1) := by decide +kernel
theorem dX7_put4_28 : decode cX7_put4 28 = .ok (.iload_n 2, 1) := by decide +kernel
theorem dX7_put4_29 : decode cX7_put4 29 = .ok (.bipush 24, 2) := by decide +kernel
theorem dX7_put4_31 : decode cX7_put4 31 = .ok (.bipush 8, 2) := by decide +kernel
theorem dX7_put4_33 : decode cX7_put4 33 = .ok (.iload_n 3, 1) := by decide +kernel
theorem dX7_put4_34 : decode cX7_put4 34 = .ok (.imul, 1) := by decide +kernel
theorem dX7_put4_35 : decode cX7_put4 35 = .ok (.isub, 1) := by decide +kernel
theorem dX7_put4_36 : decode cX7_put4 36 = .ok (.ishr, 1) := by decide +kernel
theorem dX7_put4_37 : decode cX7_put4 37 = .ok (.i2b, 1) := by decide +kernel
theorem dX7_put4_38 : decode cX7_put4 38 = .ok (.bastore, 1) := by decide +kernel
theorem dX7_put4_39 : decode cX7_put4 39 = .ok (.iinc 3 1, 3) := by decide +kernel
theorem dX7_put4_42 : decode cX7_put4 42 = .ok (.goto (-26), 3) := by decide +kernel
theorem dX7_put4_45 : decode cX7_put4 45 = .ok (.return_, 1) := by decide +kernel
theorem dX7_get2_0 : decode cX7_get2 0 = .ok (.iload_n 1, 1) := by decide +kernel
theorem dX7_get2_1 : decode cX7_get2 1 = .ok (.ifCond .lt 12, 3) := by decide +kernel
theorem dX7_get2_4 : decode cX7_get2 4 = .ok (.iload_n 1, 1) := by decide +kernel
theorem dX7_get2_5 : decode cX7_get2 5 = .ok (.iconst 2, 1) := by decide +kernel
theorem dX7_get2_6 : decode cX7_get2 6 = .ok (.iadd, 1) := by decide +kernel
theorem dX7_get2_7 : decode cX7_get2 7 = .ok (.sipush 1480, 3) := by decide +kernel
theorem dX7_get2_10 : decode cX7_get2 10 = .ok (.if_icmp .le 5, 3) := by decide +kernel
theorem dX7_get2_13 : decode cX7_get2 13 = .ok (.iconst 0, 1) := by decide +kernel
theorem dX7_get2_14 : decode cX7_get2 14 = .ok (.ireturn, 1) := by decide +kernel
theorem dX7_get2_15 : decode cX7_get2 15 = .ok (.aload_n 0, 1) := by decide +kernel
theorem dX7_get2_16 : decode cX7_get2 16 = .ok (.getfield 9, 3) := by decide +kernel
theorem dX7_get2_19 : decode cX7_get2 19 = .ok (.iload_n 1, 1) := by decide +kernel
theorem dX7_get2_20 : decode cX7_get2 20 = .ok (.baload, 1) := by decide +kernel
theorem dX7_get2_21 : decode cX7_get2 21 = .ok (.sipush 255, 3) := by decide +kernel
theorem dX7_get2_24 : decode cX7_get2 24 = .ok (.iand, 1) := by decide +kernel
theorem dX7_get2_25 : decode cX7_get2 25 = .ok (.bipush 8, 2) := by decide +kernel
theorem dX7_get2_27 : decode cX7_get2 27 = .ok (.ishl, 1) := by decide +kernel
theorem dX7_get2_28 : decode cX7_get2 28 = .ok (.aload_n 0, 1) := by decide +kernel
theorem dX7_get2_29 : decode cX7_get2 29 = .ok (.getfield 9, 3) := by decide +kernel
theorem dX7_get2_32 : decode cX7_get2 32 = .ok (.iload_n 1, 1) := by decide +kernel
theorem dX7_get2_33 : decode cX7_get2 33 = .ok (.iconst 1, 1) := by decide +kernel
theorem dX7_get2_34 : decode cX7_get2 34 = .ok (.iadd, 1) := by decide +kernel
theorem dX7_get2_35 : decode cX7_get2 35 = .ok (.baload, 1) := by decide +kernel
theorem dX7_get2_36 : decode cX7_get2 36 = .ok (.sipush 255, 3) := by decide +kernel
theorem dX7_get2_39 : decode cX7_get2 39 = .ok (.iand, 1) := by decide +kernel
theorem dX7_get2_40 : decode cX7_get2 40 = .ok (.ior, 1) := by decide +kernel
theorem dX7_get2_41 : decode cX7_get2 41 = .ok (.ireturn, 1) := by decide +kernel
theorem dX7_get4_0 : decode cX7_get4 0 = .ok (.aload_n 0, 1) := by decide +kernel
theorem dX7_get4_1 : decode cX7_get4 1 = .ok (.iload_n 1, 1) := by decide +kernel
theorem dX7_get4_2 : decode cX7_get4 2 = .ok (.invokevirtual 52, 3) := by decide +kernel
theorem dX7_get4_5 : decode cX7_get4 5 = .ok (.bipush 16, 2) := by decide +kernel
theorem dX7_get4_7 : decode cX7_get4 7 = .ok (.ishl, 1) := by decide +kernel
theorem dX7_get4_8 : decode cX7_get4 8 = .ok (.aload_n 0, 1) := by decide +kernel
theorem dX7_get4_9 : decode cX7_get4 9 = .ok (.iload_n 1, 1) := by decide +kernel
theorem dX7_get4_10 : decode cX7_get4 10 = .ok (.iconst 2, 1) := by decide +kernel
theorem dX7_get4_11 : decode cX7_get4 11 = .ok (.iadd, 1) := by decide +kernel
theorem dX7_get4_12 : decode cX7_get4 12 = .ok (.invokevirtual 52, 3) := by decide +kernel
theorem dX7_get4_15 : decode cX7_get4 15 = .ok (.ior, 1) := by decide +kernel
theorem dX7_get4_16 : decode cX7_get4 16 = .ok (.ireturn, 1) := by decide +kernel
theorem dX7_beginSegment_0 : decode cX7_beginSegment 0 = .ok (.aload_n 0, 1) := by decide +kernel
theorem dX7_beginSegment_1 : decode cX7_beginSegment 1 = .ok (.iconst 1, 1) := by decide +kernel
theorem dX7_beginSegment_2 : decode cX7_beginSegment 2 = .ok (.bipush 20, 2) := by decide +kernel
theorem dX7_beginSegment_4 : decode cX7_beginSegment 4 = .ok (.invokevirtual 56, 3) := by decide +kernel
theorem dX7_beginSegment_7 : decode cX7_beginSegment 7 = .ok (.aload_n 0, 1) := by decide +kernel
theorem dX7_beginSegment_8 : decode cX7_beginSegment 8 = .ok (.iconst 4, 1) := by decide +kernel
theorem dX7_beginSegment_9 : decode cX7_beginSegment 9 = .ok (.iload_n 2, 1) := by decide +kernel
theorem dX7_beginSegment_10 : decode cX7_beginSegment 10 = .ok (.invokevirtual 60, 3) := by decide +kernel
theorem dX7_beginSegment_13 : decode cX7_beginSegment 13 = .ok (.aload_n 0, 1) := by decide +kernel
theorem dX7_beginSegment_14 : decode cX7_beginSegment 14 = .ok (.bipush 8, 2) := by decide +kernel
theorem dX7_beginSegment_16 : decode cX7_beginSegment 16 = .ok (.iload_n 3, 1) := by decide +kernel
theorem dX7_beginSegment_17 : decode cX7_beginSegment 17 = .ok (.invokevirtual 60, 3) := by decide +kernel
theorem dX7_beginSegment_20 : decode cX7_beginSegment 20 = .ok (.aload_n 0, 1) := by decide +kernel
theorem dX7_beginSegment_21 : decode cX7_beginSegment 21 = .ok (.bipush 12, 2) := by decide +kernel
theorem dX7_beginSegment_23 : decode cX7_beginSegment 23 = .ok (.iload_n 1, 1) := by decide +kernel
theorem dX7_beginSegment_24 : decode cX7_beginSegment 24 = .ok (.invokevirtual 63, 3) := by decide +kernel
theorem dX7_beginSegment_27 : decode cX7_beginSegment 27 = .ok (.aload_n 0, 1) := by decide +kernel
theorem dX7_beginSegment_28 : decode cX7_beginSegment 28 = .ok (.bipush 14, 2) := by decide +kernel
theorem dX7_beginSegment_30 : decode cX7_beginSegment 30 = .ok (.iload 4, 2) := by decide +kernel
theorem dX7_beginSegment_32 : decode cX7_beginSegment 32 = .ok (.invokevirtual 63, 3) := by decide +kernel
theorem dX7_beginSegment_35 : decode cX7_beginSegment 35 = .ok (.aload_n 0, 1) := by decide +kernel
theorem dX7_beginSegment_36 : decode cX7_beginSegment 36 = .ok (.bipush 16, 2) := by decide +kernel
theorem dX7_beginSegment_38 : decode cX7_beginSegment 38 = .ok (.iconst 0, 1) := by decide +kernel
theorem dX7_beginSegment_39 : decode cX7_beginSegment 39 = .ok (.invokevirtual 63, 3) := by decide +kernel
theorem dX7_beginSegment_42 : decode cX7_beginSegment 42 = .ok (.return_, 1) := by decide +kernel
theorem dX7_readHead_0 : decode cX7_readHead 0 = .ok (.aload_n 0, 1) := by decide +kernel
theorem dX7_readHead_1 : decode cX7_readHead 1 = .ok (.aload_n 0, 1) := by decide +kernel
theorem dX7_readHead_2 : decode cX7_readHead 2 = .ok (.iconst 4, 1) := by decide +kernel
theorem dX7_readHead_3 : decode cX7_readHead 3 = .ok (.invokevirtual 66, 3) := by decide +kernel
theorem dX7_readHead_6 : decode cX7_readHead 6 = .ok (.putfield 69, 3) := by decide +kernel
theorem dX7_readHead_9 : decode cX7_readHead 9 = .ok (.aload_n 0, 1) := by decide +kernel
theorem dX7_readHead_10 : decode cX7_readHead 10 = .ok (.aload_n 0, 1) := by decide +kernel
theorem dX7_readHead_11 : decode cX7_readHead 11 = .ok (.bipush 8, 2) := by decide +kernel
theorem dX7_readHead_13 : decode cX7_readHead 13 = .ok (.invokevirtual 66, 3) := by decide +kernel
theorem dX7_readHead_16 : decode cX7_readHead 16 = .ok (.putfield 72, 3) := by decide +kernel
theorem dX7_readHead_19 : decode cX7_readHead 19 = .ok (.aload_n 0, 1) := by decide +kernel
theorem dX7_readHead_20 : decode cX7_readHead 20 = .ok (.aload_n 0, 1) := by decide +kernel
theorem dX7_readHead_21 : decode cX7_readHead 21 = .ok (.bipush 12, 2) := by decide +kernel
theorem dX7_readHead_23 : decode cX7_readHead 23 = .ok (.invokevirtual 52, 3) := by decide +kernel
theorem dX7_readHead_26 : decode cX7_readHead 26 = .ok (.putfield 75, 3) := by decide +kernel
theorem dX7_readHead_29 : decode cX7_readHead 29 = .ok (.aload_n 0, 1) := by decide +kernel
theorem dX7_readHead_30 : decode cX7_readHead 30 = .ok (.aload_n 0, 1) := by decide +kernel
theorem dX7_readHead_31 : decode cX7_readHead 31 = .ok (.bipush 14, 2) := by decide +kernel
theorem dX7_readHead_33 : decode cX7_readHead 33 = .ok (.invokevirtual 52, 3) := by decide +kernel
theorem dX7_readHead_36 : decode cX7_readHead 36 = .ok (.putfield 78, 3) := by decide +kernel
theorem dX7_readHead_39 : decode cX7_readHead 39 = .ok (.aload_n 0, 1) := by decide +kernel
theorem dX7_readHead_40 : decode cX7_readHead 40 = .ok (.aload_n 0, 1) := by decide +kernel
theorem dX7_readHead_41 : decode cX7_readHead 41 = .ok (.bipush 16, 2) := by decide +kernel
theorem dX7_readHead_43 : decode cX7_readHead 43 = .ok (.invokevirtual 52, 3) := by decide +kernel
theorem dX7_readHead_46 : decode cX7_readHead 46 = .ok (.putfield 81, 3) := by decide +kernel
theorem dX7_readHead_49 : decode cX7_readHead 49 = .ok (.return_, 1) := by decide +kernel
theorem dX7_has_0 : decode cX7_has 0 = .ok (.aload_n 0, 1) := by decide +kernel
theorem dX7_has_1 : decode cX7_has 1 = .ok (.getfield 75, 3) := by decide +kernel
theorem dX7_has_4 : decode cX7_has 4 = .ok (.iload_n 1, 1) := by decide +kernel
theorem dX7_has_5 : decode cX7_has 5 = .ok (.iand, 1) := by decide +kernel
theorem dX7_has_6 : decode cX7_has 6 = .ok (.ifCond .eq 7, 3) := by decide +kernel
theorem dX7_has_9 : decode cX7_has 9 = .ok (.iconst 1, 1) := by decide +kernel
theorem dX7_has_10 : decode cX7_has 10 = .ok (.goto 4, 3) := by decide +kernel
theorem dX7_has_13 : decode cX7_has 13 = .ok (.iconst 0, 1) := by decide +kernel
theorem dX7_has_14 : decode cX7_has 14 = .ok (.ireturn, 1) := by decide +kernel
theorem dX7_bytes_0 : decode cX7_bytes 0 = .ok (.iconst 0, 1) := by decide +kernel
theorem dX7_bytes_1 : decode cX7_bytes 1 = .ok (.aload_n 0, 1) := by decide +kernel
theorem dX7_bytes_2 : decode cX7_bytes 2 = .ok (.getfield 34, 3) := by decide +kernel
theorem dX7_bytes_5 : decode cX7_bytes 5 = .ok (.bipush 20, 2) := by decide +kernel
theorem dX7_bytes_7 : decode cX7_bytes 7 = .ok (.isub, 1) := by decide +kernel
theorem dX7_bytes_8 : decode cX7_bytes 8 = .ok (.invokestatic 84, 3) := by decide +kernel
theorem dX7_bytes_11 : decode cX7_bytes 11 = .ok (.ireturn, 1) := by decide +kernel
theorem dX7_size_0 : decode cX7_size 0 = .ok (.aload_n 0, 1) := by decide +kernel
theorem dX7_size_1 : decode cX7_size 1 = .ok (.getfield 34, 3) := by decide +kernel
theorem dX7_size_4 : decode cX7_size 4 = .ok (.bipush 20, 2) := by decide +kernel
theorem dX7_size_6 : decode cX7_size 6 = .ok (.if_icmp .le 13, 3) := by decide +kernel
theorem dX7_size_9 : decode cX7_size 9 = .ok (.aload_n 0, 1) := by decide +kernel
theorem dX7_size_10 : decode cX7_size 10 = .ok (.getfield 34, 3) := by decide +kernel
theorem dX7_size_13 : decode cX7_size 13 = .ok (.bipush 20, 2) := by decide +kernel
theorem dX7_size_15 : decode cX7_size 15 = .ok (.isub, 1) := by decide +kernel
theorem dX7_size_16 : decode cX7_size 16 = .ok (.goto 4, 3) := by decide +kernel
theorem dX7_size_19 : decode cX7_size 19 = .ok (.iconst 0, 1) := by decide +kernel
theorem dX7_size_20 : decode cX7_size 20 = .ok (.istore_n 1, 1) := by decide +kernel
theorem dX7_size_21 : decode cX7_size 21 = .ok (.aload_n 0, 1) := by decide +kernel
theorem dX7_size_22 : decode cX7_size 22 = .ok (.getfield 75, 3) := by decide +kernel
theorem dX7_size_25 : decode cX7_size 25 = .ok (.iconst 1, 1) := by decide +kernel
theorem dX7_size_26 : decode cX7_size 26 = .ok (.iand, 1) := by decide +kernel
theorem dX7_size_27 : decode cX7_size 27 = .ok (.ifCond .eq 6, 3) := by decide +kernel
theorem dX7_size_30 : decode cX7_size 30 = .ok (.iinc 1 1, 3) := by decide +kernel
theorem dX7_size_33 : decode cX7_size 33 = .ok (.aload_n 0, 1) := by decide +kernel
theorem dX7_size_34 : decode cX7_size 34 = .ok (.getfield 75, 3) := by decide +kernel
theorem dX7_size_37 : decode cX7_size 37 = .ok (.iconst 2, 1) := by decide +kernel
theorem dX7_size_38 : decode cX7_size 38 = .ok (.iand, 1) := by decide +kernel
theorem dX7_size_39 : decode cX7_size 39 = .ok (.ifCond .eq 9, 3) := by decide +kernel
theorem dX7_size_42 : decode cX7_size 42 = .ok (.iload_n 1, 1) := by decide +kernel
theorem dX7_size_43 : decode cX7_size 43 = .ok (.iconst 1, 1) := by decide +kernel
theorem dX7_size_44 : decode cX7_size 44 = .ok (.iadd, 1) := by decide +kernel
theorem dX7_size_45 : decode cX7_size 45 = .ok (.goto 4, 3) := by decide +kernel
theorem dX7_size_48 : decode cX7_size 48 = .ok (.iload_n 1, 1) := by decide +kernel
theorem dX7_size_49 : decode cX7_size 49 = .ok (.ireturn, 1) := by decide +kernel
theorem dX7_resetFlags_0 : decode cX7_resetFlags 0 = .ok (.aload_n 0, 1) := by decide +kernel
theorem dX7_resetFlags_1 : decode cX7_resetFlags 1 = .ok (.bipush 8, 2) := by decide +kernel
theorem dX7_resetFlags_3 : decode cX7_resetFlags 3 = .ok (.invokevirtual 90, 3) := by decide +kernel
theorem dX7_resetFlags_6 : decode cX7_resetFlags 6 = .ok (.ifCond .eq 7, 3) := by decide +kernel
theorem dX7_resetFlags_9 : decode cX7_resetFlags 9 = .ok (.iconst 4, 1) := by decide +kernel
theorem dX7_resetFlags_10 : decode cX7_resetFlags 10 = .ok (.goto 5, 3) := by decide +kernel
theorem dX7_resetFlags_13 : decode cX7_resetFlags 13 = .ok (.bipush 12, 2) := by decide +kernel
theorem dX7_resetFlags_15 : decode cX7_resetFlags 15 = .ok (.ireturn, 1) := by decide +kernel
theorem dX7_resetNumber_0 : decode cX7_resetNumber 0 = .ok (.aload_n 0, 1) := by decide +kernel
theorem dX7_resetNumber_1 : decode cX7_resetNumber 1 = .ok (.bipush 8, 2) := by decide +kernel
theorem dX7_resetNumber_3 : decode cX7_resetNumber 3 = .ok (.invokevirtual 90, 3) := by decide +kernel
theorem dX7_resetNumber_6 : decode cX7_resetNumber 6 = .ok (.ifCond .eq 10, 3) := by decide +kernel
theorem dX7_resetNumber_9 : decode cX7_resetNumber 9 = .ok (.aload_n 0, 1) := by decide +kernel
theorem dX7_resetNumber_10 : decode cX7_resetNumber 10 = .ok (.getfield 72, 3) := by decide +kernel
theorem dX7_resetNumber_13 : decode cX7_resetNumber 13 = .ok (.goto 4, 3) := by decide +kernel
theorem dX7_resetNumber_16 : decode cX7_resetNumber 16 = .ok (.iconst 0, 1) := by decide +kernel
theorem dX7_resetNumber_17 : decode cX7_resetNumber 17 = .ok (.ireturn, 1) := by decide +kernel
theorem dX7_resetThanked_0 : decode cX7_resetThanked 0 = .ok (.aload_n 0, 1) := by decide +kernel
theorem dX7_resetThanked_1 : decode cX7_resetThanked 1 = .ok (.bipush 8, 2) := by decide +kernel
theorem dX7_resetThanked_3 : decode cX7_resetThanked 3 = .ok (.invokevirtual 90, 3) := by decide +kernel
theorem dX7_resetThanked_6 : decode cX7_resetThanked 6 = .ok (.ifCond .eq 7, 3) := by decide +kernel
theorem dX7_resetThanked_9 : decode cX7_resetThanked 9 = .ok (.iconst 0, 1) := by decide +kernel
theorem dX7_resetThanked_10 : decode cX7_resetThanked 10 = .ok (.goto 12, 3) := by decide +kernel
theorem dX7_resetThanked_13 : decode cX7_resetThanked 13 = .ok (.aload_n 0, 1) := by decide +kernel
theorem dX7_resetThanked_14 : decode cX7_resetThanked 14 = .ok (.getfield 69, 3) := by decide +kernel
theorem dX7_resetThanked_17 : decode cX7_resetThanked 17 = .ok (.aload_n 0, 1) := by decide +kernel
theorem dX7_resetThanked_18 : decode cX7_resetThanked 18 = .ok (.invokevirtual 94, 3) := by decide +kernel
theorem dX7_resetThanked_21 : decode cX7_resetThanked 21 = .ok (.iadd, 1) := by decide +kernel
theorem dX7_resetThanked_22 : decode cX7_resetThanked 22 = .ok (.ireturn, 1) := by decide +kernel
theorem dX8_init_0 : decode cX8_init 0 = .ok (.aload_n 0, 1) := by decide +kernel
theorem dX8_init_1 : decode cX8_init 1 = .ok (.invokespecial 3, 3) := by decide +kernel
theorem dX8_init_4 : decode cX8_init 4 = .ok (.aload_n 0, 1) := by decide +kernel
theorem dX8_init_5 : decode cX8_init 5 = .ok (.bipush 10, 2) := by decide +kernel
theorem dX8_init_7 : decode cX8_init 7 = .ok (.putfield 9, 3) := by decide +kernel
theorem dX8_init_10 : decode cX8_init 10 = .ok (.aload_n 0, 1) := by decide +kernel
theorem dX8_init_11 : decode cX8_init 11 = .ok (.bipush 8, 2) := by decide +kernel
theorem dX8_init_13 : decode cX8_init 13 = .ok (.newarray .int, 2) := by decide +kernel
theorem dX8_init_15 : decode cX8_init 15 = .ok (.putfield 15, 3) := by decide +kernel
theorem dX8_init_18 : decode cX8_init 18 = .ok (.aload_n 0, 1) := by decide +kernel
theorem dX8_init_19 : decode cX8_init 19 = .ok (.bipush 8, 2) := by decide +kernel
theorem dX8_init_21 : decode cX8_init 21 = .ok (.newarray .int, 2) := by decide +kernel
theorem dX8_init_23 : decode cX8_init 23 = .ok (.putfield 19, 3) := by decide +kernel
theorem dX8_init_26 : decode cX8_init 26 = .ok (.aload_n 0, 1) := by decide +kernel
theorem dX8_init_27 : decode cX8_init 27 = .ok (.bipush 8, 2) := by decide +kernel
theorem dX8_init_29 : decode cX8_init 29 = .ok (.newarray .int, 2) := by decide +kernel
theorem dX8_init_31 : decode cX8_init 31 = .ok (.putfield 22, 3) := by decide +kernel
theorem dX8_init_34 : decode cX8_init 34 = .ok (.aload_n 0, 1) := by decide +kernel
theorem dX8_init_35 : decode cX8_init 35 = .ok (.bipush 8, 2) := by decide +kernel
theorem dX8_init_37 : decode cX8_init 37 = .ok (.newarray .int, 2) := by decide +kernel
theorem dX8_init_39 : decode cX8_init 39 = .ok (.putfield 25, 3) := by decide +kernel
theorem dX8_init_42 : decode cX8_init 42 = .ok (.aload_n 0, 1) := by decide +kernel
theorem dX8_init_43 : decode cX8_init 43 = .ok (.bipush 17, 2) := by decide +kernel
theorem dX8_init_45 : decode cX8_init 45 = .ok (.anewarray 28, 3) := by decide +kernel
theorem dX8_init_48 : decode cX8_init 48 = .ok (.putfield 30, 3) := by decide +kernel
theorem dX8_init_51 : decode cX8_init 51 = .ok (.aload_n 0, 1) := by decide +kernel
theorem dX8_init_52 : decode cX8_init 52 = .ok (.aload_n 1, 1) := by decide +kernel
theorem dX8_init_53 : decode cX8_init 53 = .ok (.putfield 34, 3) := by decide +kernel
theorem dX8_init_56 : decode cX8_init 56 = .ok (.aload_n 0, 1) := by decide +kernel
theorem dX8_init_57 : decode cX8_init 57 = .ok (.aload_n 2, 1) := by decide +kernel
theorem dX8_init_58 : decode cX8_init 58 = .ok (.putfield 38, 3) := by decide +kernel
theorem dX8_init_61 : decode cX8_init 61 = .ok (.aload_n 0, 1) := by decide +kernel
theorem dX8_init_62 : decode cX8_init 62 = .ok (.iload_n 3, 1) := by decide +kernel
theorem dX8_init_63 : decode cX8_init 63 = .ok (.putfield 42, 3) := by decide +kernel
theorem dX8_init_66 : decode cX8_init 66 = .ok (.aload_n 0, 1) := by decide +kernel
theorem dX8_init_67 : decode cX8_init 67 = .ok (.iload 4, 2) := by decide +kernel
theorem dX8_init_69 : decode cX8_init 69 = .ok (.putfield 45, 3) := by decide +kernel
theorem dX8_init_72 : decode cX8_init 72 = .ok (.aload_n 0, 1) := by decide +kernel
theorem dX8_init_73 : decode cX8_init 73 = .ok (.ldc 48, 2) := by decide +kernel
theorem dX8_init_75 : decode cX8_init 75 = .ok (.aload_n 2, 1) := by decide +kernel
theorem dX8_init_76 : decode cX8_init 76 = .ok (.getfield 49, 3) := by decide +kernel
theorem dX8_init_79 : decode cX8_init 79 = .ok (.bipush 16, 2) := by decide +kernel
theorem dX8_init_81 : decode cX8_init 81 = .ok (.ishl, 1) := by decide +kernel
theorem dX8_init_82 : decode cX8_init 82 = .ok (.iadd, 1) := by decide +kernel
theorem dX8_init_83 : decode cX8_init 83 = .ok (.iload 4, 2) := by decide +kernel
theorem dX8_init_85 : decode cX8_init 85 = .ok (.iadd, 1) := by decide +kernel
theorem dX8_init_86 : decode cX8_init 86 = .ok (.iconst 1, 1) := by decide +kernel
theorem dX8_init_87 : decode cX8_init 87 = .ok (.iadd, 1) := by decide +kernel
theorem dX8_init_88 : decode cX8_init 88 = .ok (.putfield 54, 3) := by decide +kernel
theorem dX8_init_91 : decode cX8_init 91 = .ok (.iconst 0, 1) := by decide +kernel
theorem dX8_init_92 : decode cX8_init 92 = .ok (.istore 5, 2) := by decide +kernel
theorem dX8_init_94 : decode cX8_init 94 = .ok (.iload 5, 2) := by decide +kernel
theorem dX8_init_96 : decode cX8_init 96 = .ok (.aload_n 0, 1) := by decide +kernel
theorem dX8_init_97 : decode cX8_init 97 = .ok (.getfield 30, 3) := by decide +kernel
theorem dX8_init_100 : decode cX8_init 100 = .ok (.arraylength, 1) := by decide +kernel
theorem dX8_init_101 : decode cX8_init 101 = .ok (.if_icmp .ge 23, 3) := by decide +kernel
theorem dX8_init_104 : decode cX8_init 104 = .ok (.aload_n 0, 1) := by decide +kernel
theorem dX8_init_105 : decode cX8_init 105 = .ok (.getfield 30, 3) := by decide +kernel
theorem dX8_init_108 : decode cX8_init 108 = .ok (.iload 5, 2) := by decide +kernel
theorem dX8_init_110 : decode cX8_init 110 = .ok (.new 28, 3) := by decide +kernel
theorem dX8_init_113 : decode cX8_init 113 = .ok (.dup, 1) := by decide +kernel
theorem dX8_init_114 : decode cX8_init 114 = .ok (.invokespecial 57, 3) := by decide +kernel
theorem dX8_init_117 : decode cX8_init 117 = .ok (.aastore, 1) := by decide +kernel
theorem dX8_init_118 : decode cX8_init 118 = .ok (.iinc 5 1, 3) := by decide +kernel
theorem dX8_init_121 : decode cX8_init 121 = .ok (.goto (-27), 3) := by decide +kernel
theorem dX8_init_124 : decode cX8_init 124 = .ok (.return_, 1) := by decide +kernel
theorem dX8_knows_0 : decode cX8_knows 0 = .ok (.aload_n 0, 1) := by decide +kernel
theorem dX8_knows_1 : decode cX8_knows 1 = .ok (.getfield 15, 3) := by decide +kernel
theorem dX8_knows_4 : decode cX8_knows 4 = .ok (.iload_n 1, 1) := by decide +kernel
theorem dX8_knows_5 : decode cX8_knows 5 = .ok (.iaload, 1) := by decide +kernel
theorem dX8_knows_6 : decode cX8_knows 6 = .ok (.ifCond .le 21, 3) := by decide +kernel
theorem dX8_knows_9 : decode cX8_knows 9 = .ok (.iload_n 2, 1) := by decide +kernel
theorem dX8_knows_10 : decode cX8_knows 10 = .ok (.aload_n 0, 1) := by decide +kernel
theorem dX8_knows_11 : decode cX8_knows 11 = .ok (.getfield 15, 3) := by decide +kernel
theorem dX8_knows_14 : decode cX8_knows 14 = .ok (.iload_n 1, 1) := by decide +kernel
theorem dX8_knows_15 : decode cX8_knows 15 = .ok (.iaload, 1) := by decide +kernel
theorem dX8_knows_16 : decode cX8_knows 16 = .ok (.isub, 1) := by decide +kernel
theorem dX8_knows_17 : decode cX8_knows 17 = .ok (.sipush 2500, 3) := by decide +kernel
theorem dX8_knows_20 : decode cX8_knows 20 = .ok (.if_icmp .gt 7, 3) := by decide +kernel
theorem dX8_knows_23 : decode cX8_knows 23 = .ok (.iconst 1, 1) := by decide +kernel
theorem dX8_knows_24 : decode cX8_knows 24 = .ok (.goto 4, 3) := by decide +kernel
theorem dX8_knows_27 : decode cX8_knows 27 = .ok (.iconst 0, 1) := by decide +kernel
theorem dX8_knows_28 : decode cX8_knows 28 = .ok (.ireturn, 1) := by decide +kernel
theorem dX8_isAsked_0 : decode cX8_isAsked 0 = .ok (.aload_n 0, 1) := by decide +kernel
theorem dX8_isAsked_1 : decode cX8_isAsked 1 = .ok (.getfield 19, 3) := by decide +kernel
theorem dX8_isAsked_4 : decode cX8_isAsked 4 = .ok (.iload_n 1, 1) := by decide +kernel
theorem dX8_isAsked_5 : decode cX8_isAsked 5 = .ok (.iaload, 1) := by decide +kernel
theorem dX8_isAsked_6 : decode cX8_isAsked 6 = .ok (.ifCond .le 7, 3) := by decide +kernel
theorem dX8_isAsked_9 : decode cX8_isAsked 9 = .ok (.iconst 1, 1) := by decide +kernel
theorem dX8_isAsked_10 : decode cX8_isAsked 10 = .ok (.goto 4, 3) := by decide +kernel
theorem dX8_isAsked_13 : decode cX8_isAsked 13 = .ok (.iconst 0, 1) := by decide +kernel
theorem dX8_isAsked_14 : decode cX8_isAsked 14 = .ok (.ireturn, 1) := by decide +kernel
theorem dX8_beginAsking_0 : decode cX8_beginAsking 0 = .ok (.aload_n 0, 1) := by decide +kernel
theorem dX8_beginAsking_1 : decode cX8_beginAsking 1 = .ok (.getfield 58, 3) := by decide +kernel
theorem dX8_beginAsking_4 : decode cX8_beginAsking 4 = .ok (.bipush 8, 2) := by decide +kernel
theorem dX8_beginAsking_6 : decode cX8_beginAsking 6 = .ok (.if_icmp .lt 4, 3) := by decide +kernel
theorem dX8_beginAsking_9 : decode cX8_beginAsking 9 = .ok (.return_, 1) := by decide +kernel
theorem dX8_beginAsking_10 : decode cX8_beginAsking 10 = .ok (.aload_n 0, 1) := by decide +kernel
theorem dX8_beginAsking_11 : decode cX8_beginAsking 11 = .ok (.getfield 19, 3) := by decide +kernel
theorem dX8_beginAsking_14 : decode cX8_beginAsking 14 = .ok (.iload_n 1, 1) := by decide +kernel
theorem dX8_beginAsking_15 : decode cX8_beginAsking 15 = .ok (.iload_n 2, 1) := by decide +kernel
theorem dX8_beginAsking_16 : decode cX8_beginAsking 16 = .ok (.iastore, 1) := by decide +kernel
theorem dX8_beginAsking_17 : decode cX8_beginAsking 17 = .ok (.aload_n 0, 1) := by decide +kernel
theorem dX8_beginAsking_18 : decode cX8_beginAsking 18 = .ok (.getfield 22, 3) := by decide +kernel
theorem dX8_beginAsking_21 : decode cX8_beginAsking 21 = .ok (.aload_n 0, 1) := by decide +kernel
theorem dX8_beginAsking_22 : decode cX8_beginAsking 22 = .ok (.getfield 58, 3) := by decide +kernel
theorem dX8_beginAsking_25 : decode cX8_beginAsking 25 = .ok (.iload_n 1, 1) := by decide +kernel
theorem dX8_beginAsking_26 : decode cX8_beginAsking 26 = .ok (.iastore, 1) := by decide +kernel
theorem dX8_beginAsking_27 : decode cX8_beginAsking 27 = .ok (.aload_n 0, 1) := by decide +kernel
theorem dX8_beginAsking_28 : decode cX8_beginAsking 28 = .ok (.dup, 1) := by decide +kernel
theorem dX8_beginAsking_29 : decode cX8_beginAsking 29 = .ok (.getfield 58, 3) := by decide +kernel
theorem dX8_beginAsking_32 : decode cX8_beginAsking 32 = .ok (.iconst 1, 1) := by decide +kernel
theorem dX8_beginAsking_33 : decode cX8_beginAsking 33 = .ok (.iadd, 1) := by decide +kernel
theorem dX8_beginAsking_34 : decode cX8_beginAsking 34 = .ok (.putfield 58, 3) := by decide +kernel
theorem dX8_beginAsking_37 : decode cX8_beginAsking 37 = .ok (.return_, 1) := by decide +kernel
theorem dX8_endAsking_0 : decode cX8_endAsking 0 = .ok (.aload_n 0, 1) := by decide +kernel
theorem dX8_endAsking_1 : decode cX8_endAsking 1 = .ok (.getfield 19, 3) := by decide +kernel
theorem dX8_endAsking_4 : decode cX8_endAsking 4 = .ok (.iload_n 1, 1) := by decide +kernel
theorem dX8_endAsking_5 : decode cX8_endAsking 5 = .ok (.iconst 0, 1) := by decide +kernel
theorem dX8_endAsking_6 : decode cX8_endAsking 6 = .ok (.iastore, 1) := by decide +kernel
theorem dX8_endAsking_7 : decode cX8_endAsking 7 = .ok (.iconst 0, 1) := by decide +kernel
theorem dX8_endAsking_8 : decode cX8_endAsking 8 = .ok (.istore_n 2, 1) := by decide +kernel
theorem dX8_endAsking_9 : decode cX8_endAsking 9 = .ok (.iconst 0, 1) := by decide +kernel
theorem dX8_endAsking_10 : decode cX8_endAsking 10 = .ok (.istore_n 3, 1) := by decide +kernel
theorem dX8_endAsking_11 : decode cX8_endAsking 11 = .ok (.iload_n 3, 1) := by decide +kernel
theorem dX8_endAsking_12 : decode cX8_endAsking 12 = .ok (.aload_n 0, 1) := by decide +kernel
theorem dX8_endAsking_13 : decode cX8_endAsking 13 = .ok (.getfield 58, 3) := by decide +kernel
theorem dX8_endAsking_16 : decode cX8_endAsking 16 = .ok (.if_icmp .ge 37, 3) := by decide +kernel
theorem dX8_endAsking_19 : decode cX8_endAsking 19 = .ok (.aload_n 0, 1) := by decide +kernel
theorem dX8_endAsking_20 : decode cX8_endAsking 20 = .ok (.getfield 22, 3) := by decide +kernel
theorem dX8_endAsking_23 : decode cX8_endAsking 23 = .ok (.iload_n 3, 1) := by decide +kernel
theorem dX8_endAsking_24 : decode cX8_endAsking 24 = .ok (.iaload, 1) := by decide +kernel
theorem dX8_endAsking_25 : decode cX8_endAsking 25 = .ok (.iload_n 1, 1) := by decide +kernel
theorem dX8_endAsking_26 : decode cX8_endAsking 26 = .ok (.if_icmp .ne 6, 3) := by decide +kernel
theorem dX8_endAsking_29 : decode cX8_endAsking 29 = .ok (.goto 18, 3) := by decide +kernel
theorem dX8_endAsking_32 : decode cX8_endAsking 32 = .ok (.aload_n 0, 1) := by decide +kernel
theorem dX8_endAsking_33 : decode cX8_endAsking 33 = .ok (.getfield 22, 3) := by decide +kernel
theorem dX8_endAsking_36 : decode cX8_endAsking 36 = .ok (.iload_n 2, 1) := by decide +kernel
theorem dX8_endAsking_37 : decode cX8_endAsking 37 = .ok (.aload_n 0, 1) := by decide +kernel
theorem dX8_endAsking_38 : decode cX8_endAsking 38 = .ok (.getfield 22, 3) := by decide +kernel
theorem dX8_endAsking_41 : decode cX8_endAsking 41 = .ok (.iload_n 3, 1) := by decide +kernel
theorem dX8_endAsking_42 : decode cX8_endAsking 42 = .ok (.iaload, 1) := by decide +kernel
theorem dX8_endAsking_43 : decode cX8_endAsking 43 = .ok (.iastore, 1) := by decide +kernel
theorem dX8_endAsking_44 : decode cX8_endAsking 44 = .ok (.iinc 2 1, 3) := by decide +kernel
theorem dX8_endAsking_47 : decode cX8_endAsking 47 = .ok (.iinc 3 1, 3) := by decide +kernel
theorem dX8_endAsking_50 : decode cX8_endAsking 50 = .ok (.goto (-39), 3) := by decide +kernel
theorem dX8_endAsking_53 : decode cX8_endAsking 53 = .ok (.aload_n 0, 1) := by decide +kernel
theorem dX8_endAsking_54 : decode cX8_endAsking 54 = .ok (.iload_n 2, 1) := by decide +kernel
theorem dX8_endAsking_55 : decode cX8_endAsking 55 = .ok (.putfield 58, 3) := by decide +kernel
theorem dX8_endAsking_58 : decode cX8_endAsking 58 = .ok (.return_, 1) := by decide +kernel
theorem dX8_rememberAsked_0 : decode cX8_rememberAsked 0 = .ok (.iconst 0, 1) := by decide +kernel
theorem dX8_rememberAsked_1 : decode cX8_rememberAsked 1 = .ok (.istore_n 1, 1) := by decide +kernel
theorem dX8_rememberAsked_2 : decode cX8_rememberAsked 2 = .ok (.iload_n 1, 1) := by decide +kernel
theorem dX8_rememberAsked_3 : decode cX8_rememberAsked 3 = .ok (.aload_n 0, 1) := by decide +kernel
theorem dX8_rememberAsked_4 : decode cX8_rememberAsked 4 = .ok (.getfield 58, 3) := by decide +kernel
theorem dX8_rememberAsked_7 : decode cX8_rememberAsked 7 = .ok (.if_icmp .ge 21, 3) := by decide +kernel
theorem dX8_rememberAsked_10 : decode cX8_rememberAsked 10 = .ok (.aload_n 0, 1) := by decide +kernel
theorem dX8_rememberAsked_11 : decode cX8_rememberAsked 11 = .ok (.getfield 25, 3) := by decide +kernel
theorem dX8_rememberAsked_14 : decode cX8_rememberAsked 14 = .ok (.iload_n 1, 1) := by decide +kernel
theorem dX8_rememberAsked_15 : decode cX8_rememberAsked 15 = .ok (.aload_n 0, 1) := by decide +kernel
theorem dX8_rememberAsked_16 : decode cX8_rememberAsked 16 = .ok (.getfield 22, 3) := by decide +kernel
theorem dX8_rememberAsked_19 : decode cX8_rememberAsked 19 = .ok (.iload_n 1, 1) := by decide +kernel
theorem dX8_rememberAsked_20 : decode cX8_rememberAsked 20 = .ok (.iaload, 1) := by decide +kernel
theorem dX8_rememberAsked_21 : decode cX8_rememberAsked 21 = .ok (.iastore, 1) := by decide +kernel
theorem dX8_rememberAsked_22 : decode cX8_rememberAsked 22 = .ok (.iinc 1 1, 3) := by decide +kernel
theorem dX8_rememberAsked_25 : decode cX8_rememberAsked 25 = .ok (.goto (-23), 3) := by decide +kernel
theorem dX8_rememberAsked_28 : decode cX8_rememberAsked 28 = .ok (.aload_n 0, 1) := by decide +kernel
theorem dX8_rememberAsked_29 : decode cX8_rememberAsked 29 = .ok (.getfield 58, 3) := by decide +kernel
theorem dX8_rememberAsked_32 : decode cX8_rememberAsked 32 = .ok (.ireturn, 1) := by decide +kernel
theorem dX8_letWait_0 : decode cX8_letWait 0 = .ok (.aload_n 0, 1) := by decide +kernel
theorem dX8_letWait_1 : decode cX8_letWait 1 = .ok (.getfield 61, 3) := by decide +kernel
theorem dX8_letWait_4 : decode cX8_letWait 4 = .ok (.aload_n 0, 1) := by decide +kernel
theorem dX8_letWait_5 : decode cX8_letWait 5 = .ok (.getfield 30, 3) := by decide +kernel
theorem dX8_letWait_8 : decode cX8_letWait 8 = .ok (.arraylength, 1) := by decide +kernel
theorem dX8_letWait_9 : decode cX8_letWait 9 = .ok (.if_icmp .lt 4, 3) := by decide +kernel
theorem dX8_letWait_12 : decode cX8_letWait 12 = .ok (.return_, 1) := by decide +kernel
theorem dX8_letWait_13 : decode cX8_letWait 13 = .ok (.aload_n 0, 1) := by decide +kernel
theorem dX8_letWait_14 : decode cX8_letWait 14 = .ok (.getfield 30, 3) := by decide +kernel
theorem dX8_letWait_17 : decode cX8_letWait 17 = .ok (.aload_n 0, 1) := by decide +kernel
theorem dX8_letWait_18 : decode cX8_letWait 18 = .ok (.getfield 61, 3) := by decide +kernel
theorem dX8_letWait_21 : decode cX8_letWait 21 = .ok (.aaload, 1) := by decide +kernel
theorem dX8_letWait_22 : decode cX8_letWait 22 = .ok (.astore_n 3, 1) := by decide +kernel
theorem dX8_letWait_23 : decode cX8_letWait 23 = .ok (.aload_n 3, 1) := by decide +kernel
theorem dX8_letWait_24 : decode cX8_letWait 24 = .ok (.aload_n 1, 1) := by decide +kernel
theorem dX8_letWait_25 : decode cX8_letWait 25 = .ok (.iconst 0, 1) := by decide +kernel
theorem dX8_letWait_26 : decode cX8_letWait 26 = .ok (.aload_n 1, 1) := by decide +kernel
theorem dX8_letWait_27 : decode cX8_letWait 27 = .ok (.getfield 64, 3) := by decide +kernel
theorem dX8_letWait_30 : decode cX8_letWait 30 = .ok (.invokevirtual 67, 3) := by decide +kernel
theorem dX8_letWait_33 : decode cX8_letWait 33 = .ok (.aload_n 3, 1) := by decide +kernel
theorem dX8_letWait_34 : decode cX8_letWait 34 = .ok (.iload_n 2, 1) := by decide +kernel
theorem dX8_letWait_35 : decode cX8_letWait 35 = .ok (.putfield 71, 3) := by decide +kernel
theorem dX8_letWait_38 : decode cX8_letWait 38 = .ok (.aload_n 0, 1) := by decide +kernel
theorem dX8_letWait_39 : decode cX8_letWait 39 = .ok (.dup, 1) := by decide +kernel
theorem dX8_letWait_40 : decode cX8_letWait 40 = .ok (.getfield 61, 3) := by decide +kernel
theorem dX8_letWait_43 : decode cX8_letWait 43 = .ok (.iconst 1, 1) := by decide +kernel
theorem dX8_letWait_44 : decode cX8_letWait 44 = .ok (.iadd, 1) := by decide +kernel
theorem dX8_letWait_45 : decode cX8_letWait 45 = .ok (.putfield 61, 3) := by decide +kernel
theorem dX8_letWait_48 : decode cX8_letWait 48 = .ok (.return_, 1) := by decide +kernel
theorem dX8_firstWaitingFor_0 : decode cX8_firstWaitingFor 0 = .ok (.iconst 0, 1) := by decide +kernel
theorem dX8_firstWaitingFor_1 : decode cX8_firstWaitingFor 1 = .ok (.istore_n 2, 1) := by decide +kernel
theorem dX8_firstWaitingFor_2 : decode cX8_firstWaitingFor 2 = .ok (.iload_n 2, 1) := by decide +kernel
theorem dX8_firstWaitingFor_3 : decode cX8_firstWaitingFor 3 = .ok (.aload_n 0, 1) := by decide +kernel
theorem dX8_firstWaitingFor_4 : decode cX8_firstWaitingFor 4 = .ok (.getfield 61, 3) := by decide +kernel
theorem dX8_firstWaitingFor_7 : decode cX8_firstWaitingFor 7 = .ok (.if_icmp .ge 24, 3) := by decide +kernel
theorem dX8_firstWaitingFor_10 : decode cX8_firstWaitingFor 10 = .ok (.aload_n 0, 1) := by decide +kernel
theorem dX8_firstWaitingFor_11 : decode cX8_firstWaitingFor 11 = .ok (.getfield 30, 3) := by decide +kernel
theorem dX8_firstWaitingFor_14 : decode cX8_firstWaitingFor 14 = .ok (.iload_n 2, 1) := by decide +kernel
theorem dX8_firstWaitingFor_15 : decode cX8_firstWaitingFor 15 = .ok (.aaload, 1) := by decide +kernel
theorem dX8_firstWaitingFor_16 : decode cX8_firstWaitingFor 16 = .ok (.getfield 71, 3) := by decide +kernel
theorem dX8_firstWaitingFor_19 : decode cX8_firstWaitingFor 19 = .ok (.iload_n 1, 1) := by decide +kernel
theorem dX8_firstWaitingFor_20 : decode cX8_firstWaitingFor 20 = .ok (.if_icmp .ne 5, 3) := by decide +kernel
theorem dX8_firstWaitingFor_23 : decode cX8_firstWaitingFor 23 = .ok (.iload_n 2, 1) := by decide +kernel
theorem dX8_firstWaitingFor_24 : decode cX8_firstWaitingFor 24 = .ok (.ireturn, 1) := by decide +kernel
theorem dX8_firstWaitingFor_25 : decode cX8_firstWaitingFor 25 = .ok (.iinc 2 1, 3) := by decide +kernel
theorem dX8_firstWaitingFor_28 : decode cX8_firstWaitingFor 28 = .ok (.goto (-26), 3) := by decide +kernel
theorem dX8_firstWaitingFor_31 : decode cX8_firstWaitingFor 31 = .ok (.iconst (-1), 1) := by decide +kernel
theorem dX8_firstWaitingFor_32 : decode cX8_firstWaitingFor 32 = .ok (.ireturn, 1) := by decide +kernel
theorem dX8_countWaitingFor_0 : decode cX8_countWaitingFor 0 = .ok (.iconst 0, 1) := by decide +kernel
theorem dX8_countWaitingFor_1 : decode cX8_countWaitingFor 1 = .ok (.istore_n 2, 1) := by decide +kernel
theorem dX8_countWaitingFor_2 : decode cX8_countWaitingFor 2 = .ok (.iconst 0, 1) := by decide +kernel
theorem dX8_countWaitingFor_3 : decode cX8_countWaitingFor 3 = .ok (.istore_n 3, 1) := by decide +kernel
theorem dX8_countWaitingFor_4 : decode cX8_countWaitingFor 4 = .ok (.iload_n 3, 1) := by decide +kernel
theorem dX8_countWaitingFor_5 : decode cX8_countWaitingFor 5 = .ok (.aload_n 0, 1) := by decide +kernel
theorem dX8_countWaitingFor_6 : decode cX8_countWaitingFor 6 = .ok (.getfield 61, 3) := by decide +kernel
theorem dX8_countWaitingFor_9 : decode cX8_countWaitingFor 9 = .ok (.if_icmp .ge 25, 3) := by decide +kernel
theorem dX8_countWaitingFor_12 : decode cX8_countWaitingFor 12 = .ok (.aload_n 0, 1) := by decide +kernel
theorem dX8_countWaitingFor_13 : decode cX8_countWaitingFor 13 = .ok (.getfield 30, 3) := by decide +kernel
theorem dX8_countWaitingFor_16 : decode cX8_countWaitingFor 16 = .ok (.iload_n 3, 1) := by decide +kernel
theorem dX8_countWaitingFor_17 : decode cX8_countWaitingFor 17 = .ok (.aaload, 1) := by decide +kernel
theorem dX8_countWaitingFor_18 : decode cX8_countWaitingFor 18 = .ok (.getfield 71, 3) := by decide +kernel
theorem dX8_countWaitingFor_21 : decode cX8_countWaitingFor 21 = .ok (.iload_n 1, 1) := by decide +kernel
theorem dX8_countWaitingFor_22 : decode cX8_countWaitingFor 22 = .ok (.if_icmp .ne 6, 3) := by decide +kernel
theorem dX8_countWaitingFor_25 : decode cX8_countWaitingFor 25 = .ok (.iinc 2 1, 3) := by decide +kernel
theorem dX8_countWaitingFor_28 : decode cX8_countWaitingFor 28 = .ok (.iinc 3 1, 3) := by decide +kernel
theorem dX8_countWaitingFor_31 : decode cX8_countWaitingFor 31 = .ok (.goto (-27), 3) := by decide +kernel
theorem dX8_countWaitingFor_34 : decode cX8_countWaitingFor 34 = .ok (.iload_n 2, 1) := by decide +kernel
theorem dX8_countWaitingFor_35 : decode cX8_countWaitingFor 35 = .ok (.ireturn, 1) := by decide +kernel
theorem dX8_takeWaiting_0 : decode cX8_takeWaiting 0 = .ok (.aload_n 0, 1) := by decide +kernel
theorem dX8_takeWaiting_1 : decode cX8_takeWaiting 1 = .ok (.getfield 30, 3) := by decide +kernel
theorem dX8_takeWaiting_4 : decode cX8_takeWaiting 4 = .ok (.iload_n 1, 1) := by decide +kernel
theorem dX8_takeWaiting_5 : decode cX8_takeWaiting 5 = .ok (.aaload, 1) := by decide +kernel
theorem dX8_takeWaiting_6 : decode cX8_takeWaiting 6 = .ok (.astore_n 2, 1) := by decide +kernel
theorem dX8_takeWaiting_7 : decode cX8_takeWaiting 7 = .ok (.iload_n 1, 1) := by decide +kernel
theorem dX8_takeWaiting_8 : decode cX8_takeWaiting 8 = .ok (.istore_n 3, 1) := by decide +kernel
theorem dX8_takeWaiting_9 : decode cX8_takeWaiting 9 = .ok (.iload_n 3, 1) := by decide +kernel
theorem dX8_takeWaiting_10 : decode cX8_takeWaiting 10 = .ok (.iconst 1, 1) := by decide +kernel
theorem dX8_takeWaiting_11 : decode cX8_takeWaiting 11 = .ok (.iadd, 1) := by decide +kernel
theorem dX8_takeWaiting_12 : decode cX8_takeWaiting 12 = .ok (.aload_n 0, 1) := by decide +kernel
theorem dX8_takeWaiting_13 : decode cX8_takeWaiting 13 = .ok (.getfield 61, 3) := by decide +kernel
theorem dX8_takeWaiting_16 : decode cX8_takeWaiting 16 = .ok (.if_icmp .ge 23, 3) := by decide +kernel
theorem dX8_takeWaiting_19 : decode cX8_takeWaiting 19 = .ok (.aload_n 0, 1) := by decide +kernel
theorem dX8_takeWaiting_20 : decode cX8_takeWaiting 20 = .ok (.getfield 30, 3) := by decide +kernel
theorem dX8_takeWaiting_23 : decode cX8_takeWaiting 23 = .ok (.iload_n 3, 1) := by decide +kernel
theorem dX8_takeWaiting_24 : decode cX8_takeWaiting 24 = .ok (.aload_n 0, 1) := by decide +kernel
theorem dX8_takeWaiting_25 : decode cX8_takeWaiting 25 = .ok (.getfield 30, 3) := by decide +kernel
theorem dX8_takeWaiting_28 : decode cX8_takeWaiting 28 = .ok (.iload_n 3, 1) := by decide +kernel
theorem dX8_takeWaiting_29 : decode cX8_takeWaiting 29 = .ok (.iconst 1, 1) := by decide +kernel
theorem dX8_takeWaiting_30 : decode cX8_takeWaiting 30 = .ok (.iadd, 1) := by decide +kernel
theorem dX8_takeWaiting_31 : decode cX8_takeWaiting 31 = .ok (.aaload, 1) := by decide +kernel
theorem dX8_takeWaiting_32 : decode cX8_takeWaiting 32 = .ok (.aastore, 1) := by decide +kernel
theorem dX8_takeWaiting_33 : decode cX8_takeWaiting 33 = .ok (.iinc 3 1, 3) := by decide +kernel
theorem dX8_takeWaiting_36 : decode cX8_takeWaiting 36 = .ok (.goto (-27), 3) := by decide +kernel
theorem dX8_takeWaiting_39 : decode cX8_takeWaiting 39 = .ok (.aload_n 0, 1) := by decide +kernel
theorem dX8_takeWaiting_40 : decode cX8_takeWaiting 40 = .ok (.dup, 1) := by decide +kernel
theorem dX8_takeWaiting_41 : decode cX8_takeWaiting 41 = .ok (.getfield 61, 3) := by decide +kernel
theorem dX8_takeWaiting_44 : decode cX8_takeWaiting 44 = .ok (.iconst 1, 1) := by decide +kernel
theorem dX8_takeWaiting_45 : decode cX8_takeWaiting 45 = .ok (.isub, 1) := by decide +kernel
theorem dX8_takeWaiting_46 : decode cX8_takeWaiting 46 = .ok (.putfield 61, 3) := by decide +kernel
theorem dX8_takeWaiting_49 : decode cX8_takeWaiting 49 = .ok (.aload_n 0, 1) := by decide +kernel
theorem dX8_takeWaiting_50 : decode cX8_takeWaiting 50 = .ok (.getfield 30, 3) := by decide +kernel
theorem dX8_takeWaiting_53 : decode cX8_takeWaiting 53 = .ok (.aload_n 0, 1) := by decide +kernel
theorem dX8_takeWaiting_54 : decode cX8_takeWaiting 54 = .ok (.getfield 61, 3) := by decide +kernel
theorem dX8_takeWaiting_57 : decode cX8_takeWaiting 57 = .ok (.aload_n 2, 1) := by decide +kernel
theorem dX8_takeWaiting_58 : decode cX8_takeWaiting 58 = .ok (.aastore, 1) := by decide +kernel
theorem dX8_takeWaiting_59 : decode cX8_takeWaiting 59 = .ok (.aload_n 2, 1) := by decide +kernel
theorem dX8_takeWaiting_60 : decode cX8_takeWaiting 60 = .ok (.areturn, 1) := by decide +kernel
theorem dX9_init_0 : decode cX9_init 0 = .ok (.aload_n 0, 1) := by decide +kernel
theorem dX9_init_1 : decode cX9_init 1 = .ok (.invokespecial 3, 3) := by decide +kernel
theorem dX9_init_4 : decode cX9_init 4 = .ok (.aload_n 0, 1) := by decide +kernel
theorem dX9_init_5 : decode cX9_init 5 = .ok (.bipush 16, 2) := by decide +kernel
theorem dX9_init_7 : decode cX9_init 7 = .ok (.newarray .int, 2) := by decide +kernel
theorem dX9_init_9 : decode cX9_init 9 = .ok (.putfield 9, 3) := by decide +kernel
theorem dX9_init_12 : decode cX9_init 12 = .ok (.aload_n 0, 1) := by decide +kernel
theorem dX9_init_13 : decode cX9_init 13 = .ok (.bipush 96, 2) := by decide +kernel
theorem dX9_init_15 : decode cX9_init 15 = .ok (.newarray .int, 2) := by decide +kernel
theorem dX9_init_17 : decode cX9_init 17 = .ok (.putfield 15, 3) := by decide +kernel
theorem dX9_init_20 : decode cX9_init 20 = .ok (.aload_n 0, 1) := by decide +kernel
theorem dX9_init_21 : decode cX9_init 21 = .ok (.bipush 96, 2) := by decide +kernel
theorem dX9_init_23 : decode cX9_init 23 = .ok (.newarray .boolean, 2) := by decide +kernel
theorem dX9_init_25 : decode cX9_init 25 = .ok (.putfield 18, 3) := by decide +kernel
theorem dX9_init_28 : decode cX9_init 28 = .ok (.aload_n 0, 1) := by decide +kernel
theorem dX9_init_29 : decode cX9_init 29 = .ok (.bipush 96, 2) := by decide +kernel
theorem dX9_init_31 : decode cX9_init 31 = .ok (.bipush 16, 2) := by decide +kernel
theorem dX9_init_33 : decode cX9_init 33 = .ok (.multianewarray 22 2, 4) := by decide +kernel
theorem dX9_init_37 : decode cX9_init 37 = .ok (.putfield 24, 3) := by decide +kernel
theorem dX9_init_40 : decode cX9_init 40 = .ok (.aload_n 0, 1) := by decide +kernel
theorem dX9_init_41 : decode cX9_init 41 = .ok (.bipush 64, 2) := by decide +kernel
theorem dX9_init_43 : decode cX9_init 43 = .ok (.newarray .int, 2) := by decide +kernel
theorem dX9_init_45 : decode cX9_init 45 = .ok (.putfield 27, 3) := by decide +kernel
theorem dX9_init_48 : decode cX9_init 48 = .ok (.aload_n 0, 1) := by decide +kernel
theorem dX9_init_49 : decode cX9_init 49 = .ok (.bipush 64, 2) := by decide +kernel
theorem dX9_init_51 : decode cX9_init 51 = .ok (.newarray .int, 2) := by decide +kernel
theorem dX9_init_53 : decode cX9_init 53 = .ok (.putfield 30, 3) := by decide +kernel
theorem dX9_init_56 : decode cX9_init 56 = .ok (.aload_n 0, 1) := by decide +kernel
theorem dX9_init_57 : decode cX9_init 57 = .ok (.bipush 64, 2) := by decide +kernel
theorem dX9_init_59 : decode cX9_init 59 = .ok (.newarray .int, 2) := by decide +kernel
theorem dX9_init_61 : decode cX9_init 61 = .ok (.putfield 33, 3) := by decide +kernel
theorem dX9_init_64 : decode cX9_init 64 = .ok (.aload_n 0, 1) := by decide +kernel
theorem dX9_init_65 : decode cX9_init 65 = .ok (.iconst 1, 1) := by decide +kernel
theorem dX9_init_66 : decode cX9_init 66 = .ok (.putfield 36, 3) := by decide +kernel
theorem dX9_init_69 : decode cX9_init 69 = .ok (.aload_n 0, 1) := by decide +kernel
theorem dX9_init_70 : decode cX9_init 70 = .ok (.new 40, 3) := by decide +kernel
theorem dX9_init_73 : decode cX9_init 73 = .ok (.dup, 1) := by decide +kernel
theorem dX9_init_74 : decode cX9_init 74 = .ok (.iload_n 1, 1) := by decide +kernel
theorem dX9_init_75 : decode cX9_init 75 = .ok (.invokespecial 42, 3) := by decide +kernel
theorem dX9_init_78 : decode cX9_init 78 = .ok (.putfield 45, 3) := by decide +kernel
theorem dX9_init_81 : decode cX9_init 81 = .ok (.return_, 1) := by decide +kernel
theorem dX9_beginHearing_0 : decode cX9_beginHearing 0 = .ok (.aload_n 0, 1) := by decide +kernel
theorem dX9_beginHearing_1 : decode cX9_beginHearing 1 = .ok (.getfield 49, 3) := by decide +kernel
theorem dX9_beginHearing_4 : decode cX9_beginHearing 4 = .ok (.bipush 16, 2) := by decide +kernel
theorem dX9_beginHearing_6 : decode cX9_beginHearing 6 = .ok (.if_icmp .lt 4, 3) := by decide +kernel
theorem dX9_beginHearing_9 : decode cX9_beginHearing 9 = .ok (.return_, 1) := by decide +kernel
theorem dX9_beginHearing_10 : decode cX9_beginHearing 10 = .ok (.aload_n 0, 1) := by decide +kernel
theorem dX9_beginHearing_11 : decode cX9_beginHearing 11 = .ok (.getfield 49, 3) := by decide +kernel
theorem dX9_beginHearing_14 : decode cX9_beginHearing 14 = .ok (.istore_n 2, 1) := by decide +kernel
theorem dX9_beginHearing_15 : decode cX9_beginHearing 15 = .ok (.iload_n 2, 1) := by decide +kernel
theorem dX9_beginHearing_16 : decode cX9_beginHearing 16 = .ok (.ifCond .le 35, 3) := by decide +kernel
theorem dX9_beginHearing_19 : decode cX9_beginHearing 19 = .ok (.aload_n 0, 1) := by decide +kernel
theorem dX9_beginHearing_20 : decode cX9_beginHearing 20 = .ok (.getfield 9, 3) := by decide +kernel
theorem dX9_beginHearing_23 : decode cX9_beginHearing 23 = .ok (.iload_n 2, 1) := by decide +kernel
theorem dX9_beginHearing_24 : decode cX9_beginHearing 24 = .ok (.iconst 1, 1) := by decide +kernel
theorem dX9_beginHearing_25 : decode cX9_beginHearing 25 = .ok (.isub, 1) := by decide +kernel
theorem dX9_beginHearing_26 : decode cX9_beginHearing 26 = .ok (.iaload, 1) := by decide +kernel
theorem dX9_beginHearing_27 : decode cX9_beginHearing 27 = .ok (.iload_n 1, 1) := by decide +kernel
theorem dX9_beginHearing_28 : decode cX9_beginHearing 28 = .ok (.if_icmp .le 23, 3) := by decide +kernel
theorem dX9_beginHearing_31 : decode cX9_beginHearing 31 = .ok (.aload_n 0, 1) := by decide +kernel
theorem dX9_beginHearing_32 : decode cX9_beginHearing 32 = .ok (.getfield 9, 3) := by decide +kernel
theorem dX9_beginHearing_35 : decode cX9_beginHearing 35 = .ok (.iload_n 2, 1) := by decide +kernel
theorem dX9_beginHearing_36 : decode cX9_beginHearing 36 = .ok (.aload_n 0, 1) := by decide +kernel
theorem dX9_beginHearing_37 : decode cX9_beginHearing 37 = .ok (.getfield 9, 3) := by decide +kernel
theorem dX9_beginHearing_40 : decode cX9_beginHearing 40 = .ok (.iload_n 2, 1) := by decide +kernel
theorem dX9_beginHearing_41 : decode cX9_beginHearing 41 = .ok (.iconst 1, 1) := by decide +kernel
theorem dX9_beginHearing_42 : decode cX9_beginHearing 42 = .ok (.isub, 1) := by decide +kernel
theorem dX9_beginHearing_43 : decode cX9_beginHearing 43 = .ok (.iaload, 1) := by decide +kernel
theorem dX9_beginHearing_44 : decode cX9_beginHearing 44 = .ok (.iastore, 1) := by decide +kernel
theorem dX9_beginHearing_45 : decode cX9_beginHearing 45 = .ok (.iinc 2 (-1), 3) := by decide +kernel
theorem dX9_beginHearing_48 : decode cX9_beginHearing 48 = .ok (.goto (-33), 3) := by decide +kernel
theorem dX9_beginHearing_51 : decode cX9_beginHearing 51 = .ok (.aload_n 0, 1) := by decide +kernel
theorem dX9_beginHearing_52 : decode cX9_beginHearing 52 = .ok (.getfield 9, 3) := by decide +kernel
theorem dX9_beginHearing_55 : decode cX9_beginHearing 55 = .ok (.iload_n 2, 1) := by decide +kernel
theorem dX9_beginHearing_56 : decode cX9_beginHearing 56 = .ok (.iload_n 1, 1) := by decide +kernel
theorem dX9_beginHearing_57 : decode cX9_beginHearing 57 = .ok (.iastore, 1) := by decide +kernel
theorem dX9_beginHearing_58 : decode cX9_beginHearing 58 = .ok (.aload_n 0, 1) := by decide +kernel
theorem dX9_beginHearing_59 : decode cX9_beginHearing 59 = .ok (.dup, 1) := by decide +kernel
theorem dX9_beginHearing_60 : decode cX9_beginHearing 60 = .ok (.getfield 49, 3) := by decide +kernel
theorem dX9_beginHearing_63 : decode cX9_beginHearing 63 = .ok (.iconst 1, 1) := by decide +kernel
theorem dX9_beginHearing_64 : decode cX9_beginHearing 64 = .ok (.iadd, 1) := by decide +kernel
theorem dX9_beginHearing_65 : decode cX9_beginHearing 65 = .ok (.putfield 49, 3) := by decide +kernel
theorem dX9_beginHearing_68 : decode cX9_beginHearing 68 = .ok (.return_, 1) := by decide +kernel
theorem dX9_forget_0 : decode cX9_forget 0 = .ok (.aload_n 0, 1) := by decide +kernel
theorem dX9_forget_1 : decode cX9_forget 1 = .ok (.getfield 9, 3) := by decide +kernel
theorem dX9_forget_4 : decode cX9_forget 4 = .ok (.iload_n 1, 1) := by decide +kernel
theorem dX9_forget_5 : decode cX9_forget 5 = .ok (.iaload, 1) := by decide +kernel
theorem dX9_forget_6 : decode cX9_forget 6 = .ok (.istore_n 2, 1) := by decide +kernel
theorem dX9_forget_7 : decode cX9_forget 7 = .ok (.iload_n 1, 1) := by decide +kernel
theorem dX9_forget_8 : decode cX9_forget 8 = .ok (.istore_n 3, 1) := by decide +kernel
theorem dX9_forget_9 : decode cX9_forget 9 = .ok (.iload_n 3, 1) := by decide +kernel
theorem dX9_forget_10 : decode cX9_forget 10 = .ok (.iconst 1, 1) := by decide +kernel
theorem dX9_forget_11 : decode cX9_forget 11 = .ok (.iadd, 1) := by decide +kernel
theorem dX9_forget_12 : decode cX9_forget 12 = .ok (.aload_n 0, 1) := by decide +kernel
theorem dX9_forget_13 : decode cX9_forget 13 = .ok (.getfield 49, 3) := by decide +kernel
theorem dX9_forget_16 : decode cX9_forget 16 = .ok (.if_icmp .ge 23, 3) := by decide +kernel
theorem dX9_forget_19 : decode cX9_forget 19 = .ok (.aload_n 0, 1) := by decide +kernel
theorem dX9_forget_20 : decode cX9_forget 20 = .ok (.getfield 9, 3) := by decide +kernel
theorem dX9_forget_23 : decode cX9_forget 23 = .ok (.iload_n 3, 1) := by decide +kernel
theorem dX9_forget_24 : decode cX9_forget 24 = .ok (.aload_n 0, 1) := by decide +kernel
theorem dX9_forget_25 : decode cX9_forget 25 = .ok (.getfield 9, 3) := by decide +kernel
theorem dX9_forget_28 : decode cX9_forget 28 = .ok (.iload_n 3, 1) := by decide +kernel
theorem dX9_forget_29 : decode cX9_forget 29 = .ok (.iconst 1, 1) := by decide +kernel
theorem dX9_forget_30 : decode cX9_forget 30 = .ok (.iadd, 1) := by decide +kernel
theorem dX9_forget_31 : decode cX9_forget 31 = .ok (.iaload, 1) := by decide +kernel
theorem dX9_forget_32 : decode cX9_forget 32 = .ok (.iastore, 1) := by decide +kernel
theorem dX9_forget_33 : decode cX9_forget 33 = .ok (.iinc 3 1, 3) := by decide +kernel
theorem dX9_forget_36 : decode cX9_forget 36 = .ok (.goto (-27), 3) := by decide +kernel
theorem dX9_forget_39 : decode cX9_forget 39 = .ok (.aload_n 0, 1) := by decide +kernel
theorem dX9_forget_40 : decode cX9_forget 40 = .ok (.dup, 1) := by decide +kernel
theorem dX9_forget_41 : decode cX9_forget 41 = .ok (.getfield 49, 3) := by decide +kernel
theorem dX9_forget_44 : decode cX9_forget 44 = .ok (.iconst 1, 1) := by decide +kernel
theorem dX9_forget_45 : decode cX9_forget 45 = .ok (.isub, 1) := by decide +kernel
theorem dX9_forget_46 : decode cX9_forget 46 = .ok (.putfield 49, 3) := by decide +kernel
theorem dX9_forget_49 : decode cX9_forget 49 = .ok (.aload_n 0, 1) := by decide +kernel
theorem dX9_forget_50 : decode cX9_forget 50 = .ok (.getfield 15, 3) := by decide +kernel
theorem dX9_forget_53 : decode cX9_forget 53 = .ok (.iload_n 2, 1) := by decide +kernel
theorem dX9_forget_54 : decode cX9_forget 54 = .ok (.iconst 0, 1) := by decide +kernel
theorem dX9_forget_55 : decode cX9_forget 55 = .ok (.iastore, 1) := by decide +kernel
theorem dX9_forget_56 : decode cX9_forget 56 = .ok (.aload_n 0, 1) := by decide +kernel
theorem dX9_forget_57 : decode cX9_forget 57 = .ok (.iload_n 2, 1) := by decide +kernel
theorem dX9_forget_58 : decode cX9_forget 58 = .ok (.iconst 0, 1) := by decide +kernel
theorem dX9_forget_59 : decode cX9_forget 59 = .ok (.iconst 0, 1) := by decide +kernel
theorem dX9_forget_60 : decode cX9_forget 60 = .ok (.invokevirtual 53, 3) := by decide +kernel
theorem dX9_forget_63 : decode cX9_forget 63 = .ok (.return_, 1) := by decide +kernel
theorem dX9_setFriend_0 : decode cX9_setFriend 0 = .ok (.aload_n 0, 1) := by decide +kernel
theorem dX9_setFriend_1 : decode cX9_setFriend 1 = .ok (.getfield 18, 3) := by decide +kernel
theorem dX9_setFriend_4 : decode cX9_setFriend 4 = .ok (.iload_n 1, 1) := by decide +kernel
theorem dX9_setFriend_5 : decode cX9_setFriend 5 = .ok (.baload, 1) := by decide +kernel
theorem dX9_setFriend_6 : decode cX9_setFriend 6 = .ok (.iload_n 2, 1) := by decide +kernel
theorem dX9_setFriend_7 : decode cX9_setFriend 7 = .ok (.if_icmp .ne 4, 3) := by decide +kernel
theorem dX9_setFriend_10 : decode cX9_setFriend 10 = .ok (.return_, 1) := by decide +kernel
theorem dX9_setFriend_11 : decode cX9_setFriend 11 = .ok (.aload_n 0, 1) := by decide +kernel
theorem dX9_setFriend_12 : decode cX9_setFriend 12 = .ok (.getfield 18, 3) := by decide +kernel
theorem dX9_setFriend_15 : decode cX9_setFriend 15 = .ok (.iload_n 1, 1) := by decide +kernel
theorem dX9_setFriend_16 : decode cX9_setFriend 16 = .ok (.iload_n 2, 1) := by decide +kernel
theorem dX9_setFriend_17 : decode cX9_setFriend 17 = .ok (.bastore, 1) := by decide +kernel
theorem dX9_setFriend_18 : decode cX9_setFriend 18 = .ok (.aload_n 0, 1) := by decide +kernel
theorem dX9_setFriend_19 : decode cX9_setFriend 19 = .ok (.iconst 1, 1) := by decide +kernel
theorem dX9_setFriend_20 : decode cX9_setFriend 20 = .ok (.putfield 36, 3) := by decide +kernel
theorem dX9_setFriend_23 : decode cX9_setFriend 23 = .ok (.iconst 0, 1) := by decide +kernel
theorem dX9_setFriend_24 : decode cX9_setFriend 24 = .ok (.istore 4, 2) := by decide +kernel
theorem dX9_setFriend_26 : decode cX9_setFriend 26 = .ok (.iload 4, 2) := by decide +kernel
theorem dX9_setFriend_28 : decode cX9_setFriend 28 = .ok (.bipush 16, 2) := by decide +kernel
theorem dX9_setFriend_30 : decode cX9_setFriend 30 = .ok (.if_icmp .ge 38, 3) := by decide +kernel
theorem dX9_setFriend_33 : decode cX9_setFriend 33 = .ok (.aload_n 0, 1) := by decide +kernel
theorem dX9_setFriend_34 : decode cX9_setFriend 34 = .ok (.iload_n 1, 1) := by decide +kernel
theorem dX9_setFriend_35 : decode cX9_setFriend 35 = .ok (.iload 4, 2) := by decide +kernel
theorem dX9_setFriend_37 : decode cX9_setFriend 37 = .ok (.iload_n 2, 1) := by decide +kernel
theorem dX9_setFriend_38 : decode cX9_setFriend 38 = .ok (.ifCond .eq 20, 3) := by decide +kernel
theorem dX9_setFriend_41 : decode cX9_setFriend 41 = .ok (.aload_n 0, 1) := by decide +kernel
theorem dX9_setFriend_42 : decode cX9_setFriend 42 = .ok (.getfield 45, 3) := by decide +kernel
theorem dX9_setFriend_45 : decode cX9_setFriend 45 = .ok (.getfield 57, 3) := by decide +kernel
theorem dX9_setFriend_48 : decode cX9_setFriend 48 = .ok (.iload 4, 2) := by decide +kernel
theorem dX9_setFriend_50 : decode cX9_setFriend 50 = .ok (.iaload, 1) := by decide +kernel
theorem dX9_setFriend_51 : decode cX9_setFriend 51 = .ok (.ifCond .eq 7, 3) := by decide +kernel
theorem dX9_setFriend_54 : decode cX9_setFriend 54 = .ok (.iload_n 3, 1) := by decide +kernel
theorem dX9_setFriend_55 : decode cX9_setFriend 55 = .ok (.goto 4, 3) := by decide +kernel
theorem dX9_setFriend_58 : decode cX9_setFriend 58 = .ok (.iconst 0, 1) := by decide +kernel
theorem dX9_setFriend_59 : decode cX9_setFriend 59 = .ok (.invokevirtual 60, 3) := by decide +kernel
theorem dX9_setFriend_62 : decode cX9_setFriend 62 = .ok (.iinc 4 1, 3) := by decide +kernel
theorem dX9_setFriend_65 : decode cX9_setFriend 65 = .ok (.goto (-39), 3) := by decide +kernel
theorem dX9_setFriend_68 : decode cX9_setFriend 68 = .ok (.return_, 1) := by decide +kernel
theorem dX9_setDue_0 : decode cX9_setDue 0 = .ok (.aload_n 0, 1) := by decide +kernel
theorem dX9_setDue_1 : decode cX9_setDue 1 = .ok (.getfield 24, 3) := by decide +kernel
theorem dX9_setDue_4 : decode cX9_setDue 4 = .ok (.iload_n 1, 1) := by decide +kernel
theorem dX9_setDue_5 : decode cX9_setDue 5 = .ok (.aaload, 1) := by decide +kernel
theorem dX9_setDue_6 : decode cX9_setDue 6 = .ok (.iload_n 2, 1) := by decide +kernel
theorem dX9_setDue_7 : decode cX9_setDue 7 = .ok (.iaload, 1) := by decide +kernel
theorem dX9_setDue_8 : decode cX9_setDue 8 = .ok (.ifCond .eq 13, 3) := by decide +kernel
theorem dX9_setDue_11 : decode cX9_setDue 11 = .ok (.aload_n 0, 1) := by decide +kernel
theorem dX9_setDue_12 : decode cX9_setDue 12 = .ok (.dup, 1) := by decide +kernel
theorem dX9_setDue_13 : decode cX9_setDue 13 = .ok (.getfield 64, 3) := by decide +kernel
theorem dX9_setDue_16 : decode cX9_setDue 16 = .ok (.iconst 1, 1) := by decide +kernel
theorem dX9_setDue_17 : decode cX9_setDue 17 = .ok (.isub, 1) := by decide +kernel
theorem dX9_setDue_18 : decode cX9_setDue 18 = .ok (.putfield 64, 3) := by decide +kernel
theorem dX9_setDue_21 : decode cX9_setDue 21 = .ok (.aload_n 0, 1) := by decide +kernel
theorem dX9_setDue_22 : decode cX9_setDue 22 = .ok (.getfield 24, 3) := by decide +kernel
theorem dX9_setDue_25 : decode cX9_setDue 25 = .ok (.iload_n 1, 1) := by decide +kernel
theorem dX9_setDue_26 : decode cX9_setDue 26 = .ok (.aaload, 1) := by decide +kernel
theorem dX9_setDue_27 : decode cX9_setDue 27 = .ok (.iload_n 2, 1) := by decide +kernel
theorem dX9_setDue_28 : decode cX9_setDue 28 = .ok (.iload_n 3, 1) := by decide +kernel
theorem dX9_setDue_29 : decode cX9_setDue 29 = .ok (.iastore, 1) := by decide +kernel
theorem dX9_setDue_30 : decode cX9_setDue 30 = .ok (.iload_n 3, 1) := by decide +kernel
theorem dX9_setDue_31 : decode cX9_setDue 31 = .ok (.ifCond .eq 13, 3) := by decide +kernel
theorem dX9_setDue_34 : decode cX9_setDue 34 = .ok (.aload_n 0, 1) := by decide +kernel
theorem dX9_setDue_35 : decode cX9_setDue 35 = .ok (.dup, 1) := by decide +kernel
theorem dX9_setDue_36 : decode cX9_setDue 36 = .ok (.getfield 64, 3) := by decide +kernel
theorem dX9_setDue_39 : decode cX9_setDue 39 = .ok (.iconst 1, 1) := by decide +kernel
theorem dX9_setDue_40 : decode cX9_setDue 40 = .ok (.iadd, 1) := by decide +kernel
theorem dX9_setDue_41 : decode cX9_setDue 41 = .ok (.putfield 64, 3) := by decide +kernel
theorem dX9_setDue_44 : decode cX9_setDue 44 = .ok (.return_, 1) := by decide +kernel
theorem dX9_setDueToAll_0 : decode cX9_setDueToAll 0 = .ok (.iconst 0, 1) := by decide +kernel
theorem dX9_setDueToAll_1 : decode cX9_setDueToAll 1 = .ok (.istore 4, 2) := by decide +kernel
theorem dX9_setDueToAll_3 : decode cX9_setDueToAll 3 = .ok (.iload 4, 2) := by decide +kernel
theorem dX9_setDueToAll_5 : decode cX9_setDueToAll 5 = .ok (.aload_n 0, 1) := by decide +kernel
theorem dX9_setDueToAll_6 : decode cX9_setDueToAll 6 = .ok (.getfield 49, 3) := by decide +kernel
theorem dX9_setDueToAll_9 : decode cX9_setDueToAll 9 = .ok (.if_icmp .ge 48, 3) := by decide +kernel
theorem dX9_setDueToAll_12 : decode cX9_setDueToAll 12 = .ok (.aload_n 0, 1) := by decide +kernel
theorem dX9_setDueToAll_13 : decode cX9_setDueToAll 13 = .ok (.getfield 9, 3) := by decide +kernel
theorem dX9_setDueToAll_16 : decode cX9_setDueToAll 16 = .ok (.iload 4, 2) := by decide +kernel
theorem dX9_setDueToAll_18 : decode cX9_setDueToAll 18 = .ok (.iaload, 1) := by decide +kernel
theorem dX9_setDueToAll_19 : decode cX9_setDueToAll 19 = .ok (.iload_n 2, 1) := by decide +kernel
theorem dX9_setDueToAll_20 : decode cX9_setDueToAll 20 = .ok (.if_icmp .eq 31, 3) := by decide +kernel
theorem dX9_setDueToAll_23 : decode cX9_setDueToAll 23 = .ok (.aload_n 0, 1) := by decide +kernel
theorem dX9_setDueToAll_24 : decode cX9_setDueToAll 24 = .ok (.getfield 18, 3) := by decide +kernel
theorem dX9_setDueToAll_27 : decode cX9_setDueToAll 27 = .ok (.aload_n 0, 1) := by decide +kernel
theorem dX9_setDueToAll_28 : decode cX9_setDueToAll 28 = .ok (.getfield 9, 3) := by decide +kernel
theorem dX9_setDueToAll_31 : decode cX9_setDueToAll 31 = .ok (.iload 4, 2) := by decide +kernel
theorem dX9_setDueToAll_33 : decode cX9_setDueToAll 33 = .ok (.iaload, 1) := by decide +kernel
theorem dX9_setDueToAll_34 : decode cX9_setDueToAll 34 = .ok (.baload, 1) := by decide +kernel
theorem dX9_setDueToAll_35 : decode cX9_setDueToAll 35 = .ok (.ifCond .eq 16, 3) := by decide +kernel
theorem dX9_setDueToAll_38 : decode cX9_setDueToAll 38 = .ok (.aload_n 0, 1) := by decide +kernel
theorem dX9_setDueToAll_39 : decode cX9_setDueToAll 39 = .ok (.aload_n 0, 1) := by decide +kernel
theorem dX9_setDueToAll_40 : decode cX9_setDueToAll 40 = .ok (.getfield 9, 3) := by decide +kernel
theorem dX9_setDueToAll_43 : decode cX9_setDueToAll 43 = .ok (.iload 4, 2) := by decide +kernel
theorem dX9_setDueToAll_45 : decode cX9_setDueToAll 45 = .ok (.iaload, 1) := by decide +kernel
theorem dX9_setDueToAll_46 : decode cX9_setDueToAll 46 = .ok (.iload_n 1, 1) := by decide +kernel
theorem dX9_setDueToAll_47 : decode cX9_setDueToAll 47 = .ok (.iload_n 3, 1) := by decide +kernel
theorem dX9_setDueToAll_48 : decode cX9_setDueToAll 48 = .ok (.invokevirtual 60, 3) := by decide +kernel
theorem dX9_setDueToAll_51 : decode cX9_setDueToAll 51 = .ok (.iinc 4 1, 3) := by decide +kernel
theorem dX9_setDueToAll_54 : decode cX9_setDueToAll 54 = .ok (.goto (-51), 3) := by decide +kernel
theorem dX9_setDueToAll_57 : decode cX9_setDueToAll 57 = .ok (.return_, 1) := by decide +kernel
theorem dX9_clearDueOf_0 : decode cX9_clearDueOf 0 = .ok (.iconst 0, 1) := by decide +kernel
theorem dX9_clearDueOf_1 : decode cX9_clearDueOf 1 = .ok (.istore_n 2, 1) := by decide +kernel
theorem dX9_clearDueOf_2 : decode cX9_clearDueOf 2 = .ok (.iload_n 2, 1) := by decide +kernel
theorem dX9_clearDueOf_3 : decode cX9_clearDueOf 3 = .ok (.aload_n 0, 1) := by decide +kernel
theorem dX9_clearDueOf_4 : decode cX9_clearDueOf 4 = .ok (.getfield 49, 3) := by decide +kernel
theorem dX9_clearDueOf_7 : decode cX9_clearDueOf 7 = .ok (.if_icmp .ge 21, 3) := by decide +kernel
theorem dX9_clearDueOf_10 : decode cX9_clearDueOf 10 = .ok (.aload_n 0, 1) := by decide +kernel
theorem dX9_clearDueOf_11 : decode cX9_clearDueOf 11 = .ok (.aload_n 0, 1) := by decide +kernel
theorem dX9_clearDueOf_12 : decode cX9_clearDueOf 12 = .ok (.getfield 9, 3) := by decide +kernel
theorem dX9_clearDueOf_15 : decode cX9_clearDueOf 15 = .ok (.iload_n 2, 1) := by decide +kernel
theorem dX9_clearDueOf_16 : decode cX9_clearDueOf 16 = .ok (.iaload, 1) := by decide +kernel
theorem dX9_clearDueOf_17 : decode cX9_clearDueOf 17 = .ok (.iload_n 1, 1) := by decide +kernel
theorem dX9_clearDueOf_18 : decode cX9_clearDueOf 18 = .ok (.iconst 0, 1) := by decide +kernel
theorem dX9_clearDueOf_19 : decode cX9_clearDueOf 19 = .ok (.invokevirtual 60, 3) := by decide +kernel
theorem dX9_clearDueOf_22 : decode cX9_clearDueOf 22 = .ok (.iinc 2 1, 3) := by decide +kernel
theorem dX9_clearDueOf_25 : decode cX9_clearDueOf 25 = .ok (.goto (-23), 3) := by decide +kernel
theorem dX9_clearDueOf_28 : decode cX9_clearDueOf 28 = .ok (.return_, 1) := by decide +kernel
theorem dX9_addThanks_0 : decode cX9_addThanks 0 = .ok (.aload_n 0, 1) := by decide +kernel
theorem dX9_addThanks_1 : decode cX9_addThanks 1 = .ok (.getfield 67, 3) := by decide +kernel
theorem dX9_addThanks_4 : decode cX9_addThanks 4 = .ok (.bipush 64, 2) := by decide +kernel
theorem dX9_addThanks_6 : decode cX9_addThanks 6 = .ok (.if_icmp .lt 5, 3) := by decide +kernel
theorem dX9_addThanks_9 : decode cX9_addThanks 9 = .ok (.iconst 0, 1) := by decide +kernel
theorem dX9_addThanks_10 : decode cX9_addThanks 10 = .ok (.ireturn, 1) := by decide +kernel
theorem dX9_addThanks_11 : decode cX9_addThanks 11 = .ok (.aload_n 0, 1) := by decide +kernel
theorem dX9_addThanks_12 : decode cX9_addThanks 12 = .ok (.getfield 27, 3) := by decide +kernel
theorem dX9_addThanks_15 : decode cX9_addThanks 15 = .ok (.aload_n 0, 1) := by decide +kernel
theorem dX9_addThanks_16 : decode cX9_addThanks 16 = .ok (.getfield 67, 3) := by decide +kernel
theorem dX9_addThanks_19 : decode cX9_addThanks 19 = .ok (.iload_n 1, 1) := by decide +kernel
theorem dX9_addThanks_20 : decode cX9_addThanks 20 = .ok (.iastore, 1) := by decide +kernel
theorem dX9_addThanks_21 : decode cX9_addThanks 21 = .ok (.aload_n 0, 1) := by decide +kernel
theorem dX9_addThanks_22 : decode cX9_addThanks 22 = .ok (.getfield 30, 3) := by decide +kernel
theorem dX9_addThanks_25 : decode cX9_addThanks 25 = .ok (.aload_n 0, 1) := by decide +kernel
theorem dX9_addThanks_26 : decode cX9_addThanks 26 = .ok (.getfield 67, 3) := by decide +kernel
theorem dX9_addThanks_29 : decode cX9_addThanks 29 = .ok (.iload_n 2, 1) := by decide +kernel
theorem dX9_addThanks_30 : decode cX9_addThanks 30 = .ok (.iastore, 1) := by decide +kernel
theorem dX9_addThanks_31 : decode cX9_addThanks 31 = .ok (.aload_n 0, 1) := by decide +kernel
theorem dX9_addThanks_32 : decode cX9_addThanks 32 = .ok (.getfield 33, 3) := by decide +kernel
theorem dX9_addThanks_35 : decode cX9_addThanks 35 = .ok (.aload_n 0, 1) := by decide +kernel
theorem dX9_addThanks_36 : decode cX9_addThanks 36 = .ok (.getfield 67, 3) := by decide +kernel
theorem dX9_addThanks_39 : decode cX9_addThanks 39 = .ok (.iload_n 3, 1) := by decide +kernel
theorem dX9_addThanks_40 : decode cX9_addThanks 40 = .ok (.iastore, 1) := by decide +kernel
theorem dX9_addThanks_41 : decode cX9_addThanks 41 = .ok (.aload_n 0, 1) := by decide +kernel
theorem dX9_addThanks_42 : decode cX9_addThanks 42 = .ok (.dup, 1) := by decide +kernel
theorem dX9_addThanks_43 : decode cX9_addThanks 43 = .ok (.getfield 67, 3) := by decide +kernel
theorem dX9_addThanks_46 : decode cX9_addThanks 46 = .ok (.iconst 1, 1) := by decide +kernel
theorem dX9_addThanks_47 : decode cX9_addThanks 47 = .ok (.iadd, 1) := by decide +kernel
theorem dX9_addThanks_48 : decode cX9_addThanks 48 = .ok (.putfield 67, 3) := by decide +kernel
theorem dX9_addThanks_51 : decode cX9_addThanks 51 = .ok (.iconst 1, 1) := by decide +kernel
theorem dX9_addThanks_52 : decode cX9_addThanks 52 = .ok (.ireturn, 1) := by decide +kernel
theorem dX9_draftAdvert_0 : decode cX9_draftAdvert 0 = .ok (.aload_n 0, 1) := by decide +kernel
theorem dX9_draftAdvert_1 : decode cX9_draftAdvert 1 = .ok (.getfield 45, 3) := by decide +kernel
theorem dX9_draftAdvert_4 : decode cX9_draftAdvert 4 = .ok (.iconst 0, 1) := by decide +kernel
theorem dX9_draftAdvert_5 : decode cX9_draftAdvert 5 = .ok (.putfield 70, 3) := by decide +kernel
theorem dX9_draftAdvert_8 : decode cX9_draftAdvert 8 = .ok (.iconst 0, 1) := by decide +kernel
theorem dX9_draftAdvert_9 : decode cX9_draftAdvert 9 = .ok (.istore_n 3, 1) := by decide +kernel
theorem dX9_draftAdvert_10 : decode cX9_draftAdvert 10 = .ok (.iload_n 3, 1) := by decide +kernel
theorem dX9_draftAdvert_11 : decode cX9_draftAdvert 11 = .ok (.iload_n 2, 1) := by decide +kernel
theorem dX9_draftAdvert_12 : decode cX9_draftAdvert 12 = .ok (.if_icmp .ge 46, 3) := by decide +kernel
theorem dX9_draftAdvert_15 : decode cX9_draftAdvert 15 = .ok (.aload_n 1, 1) := by decide +kernel
theorem dX9_draftAdvert_16 : decode cX9_draftAdvert 16 = .ok (.iload_n 3, 1) := by decide +kernel
theorem dX9_draftAdvert_17 : decode cX9_draftAdvert 17 = .ok (.invokevirtual 73, 3) := by decide +kernel
theorem dX9_draftAdvert_20 : decode cX9_draftAdvert 20 = .ok (.astore 4, 2) := by decide +kernel
theorem dX9_draftAdvert_22 : decode cX9_draftAdvert 22 = .ok (.aload 4, 2) := by decide +kernel
theorem dX9_draftAdvert_24 : decode cX9_draftAdvert 24 = .ok (.ifnull 28, 3) := by decide +kernel
theorem dX9_draftAdvert_27 : decode cX9_draftAdvert 27 = .ok (.aload 4, 2) := by decide +kernel
theorem dX9_draftAdvert_29 : decode cX9_draftAdvert 29 = .ok (.getfield 79, 3) := by decide +kernel
theorem dX9_draftAdvert_32 : decode cX9_draftAdvert 32 = .ok (.getfield 85, 3) := by decide +kernel
theorem dX9_draftAdvert_35 : decode cX9_draftAdvert 35 = .ok (.ifCond .eq 17, 3) := by decide +kernel
theorem dX9_draftAdvert_38 : decode cX9_draftAdvert 38 = .ok (.aload_n 0, 1) := by decide +kernel
theorem dX9_draftAdvert_39 : decode cX9_draftAdvert 39 = .ok (.getfield 45, 3) := by decide +kernel
theorem dX9_draftAdvert_42 : decode cX9_draftAdvert 42 = .ok (.iconst 0, 1) := by decide +kernel
theorem dX9_draftAdvert_43 : decode cX9_draftAdvert 43 = .ok (.iload_n 3, 1) := by decide +kernel
theorem dX9_draftAdvert_44 : decode cX9_draftAdvert 44 = .ok (.aload 4, 2) := by decide +kernel
theorem dX9_draftAdvert_46 : decode cX9_draftAdvert 46 = .ok (.getfield 90, 3) := by decide +kernel
theorem dX9_draftAdvert_49 : decode cX9_draftAdvert 49 = .ok (.invokevirtual 93, 3) := by decide +kernel
theorem dX9_draftAdvert_52 : decode cX9_draftAdvert 52 = .ok (.iinc 3 1, 3) := by decide +kernel
theorem dX9_draftAdvert_55 : decode cX9_draftAdvert 55 = .ok (.goto (-45), 3) := by decide +kernel
theorem dX9_draftAdvert_58 : decode cX9_draftAdvert 58 = .ok (.iconst 0, 1) := by decide +kernel
theorem dX9_draftAdvert_59 : decode cX9_draftAdvert 59 = .ok (.istore_n 3, 1) := by decide +kernel
theorem dX9_draftAdvert_60 : decode cX9_draftAdvert 60 = .ok (.iload_n 3, 1) := by decide +kernel
theorem dX9_draftAdvert_61 : decode cX9_draftAdvert 61 = .ok (.iload_n 2, 1) := by decide +kernel
theorem dX9_draftAdvert_62 : decode cX9_draftAdvert 62 = .ok (.if_icmp .ge 27, 3) := by decide +kernel
theorem dX9_draftAdvert_65 : decode cX9_draftAdvert 65 = .ok (.aload_n 1, 1) := by decide +kernel
theorem dX9_draftAdvert_66 : decode cX9_draftAdvert 66 = .ok (.iload_n 3, 1) := by decide +kernel
theorem dX9_draftAdvert_67 : decode cX9_draftAdvert 67 = .ok (.invokevirtual 73, 3) := by decide +kernel
theorem dX9_draftAdvert_70 : decode cX9_draftAdvert 70 = .ok (.astore 4, 2) := by decide +kernel
theorem dX9_draftAdvert_72 : decode cX9_draftAdvert 72 = .ok (.aload 4, 2) := by decide +kernel
theorem dX9_draftAdvert_74 : decode cX9_draftAdvert 74 = .ok (.ifnull 9, 3) := by decide +kernel
theorem dX9_draftAdvert_77 : decode cX9_draftAdvert 77 = .ok (.aload_n 0, 1) := by decide +kernel
theorem dX9_draftAdvert_78 : decode cX9_draftAdvert 78 = .ok (.aload 4, 2) := by decide +kernel
theorem dX9_draftAdvert_80 : decode cX9_draftAdvert 80 = .ok (.invokevirtual 96, 3) := by decide +kernel
theorem dX9_draftAdvert_83 : decode cX9_draftAdvert 83 = .ok (.iinc 3 1, 3) := by decide +kernel
theorem dX9_draftAdvert_86 : decode cX9_draftAdvert 86 = .ok (.goto (-26), 3) := by decide +kernel
theorem dX9_draftAdvert_89 : decode cX9_draftAdvert 89 = .ok (.return_, 1) := by decide +kernel
theorem dX9_draftFriends_0 : decode cX9_draftFriends 0 = .ok (.iconst 0, 1) := by decide +kernel
theorem dX9_draftFriends_1 : decode cX9_draftFriends 1 = .ok (.istore_n 2, 1) := by decide +kernel
theorem dX9_draftFriends_2 : decode cX9_draftFriends 2 = .ok (.iload_n 2, 1) := by decide +kernel
theorem dX9_draftFriends_3 : decode cX9_draftFriends 3 = .ok (.aload_n 0, 1) := by decide +kernel
theorem dX9_draftFriends_4 : decode cX9_draftFriends 4 = .ok (.getfield 49, 3) := by decide +kernel
theorem dX9_draftFriends_7 : decode cX9_draftFriends 7 = .ok (.if_icmp .ge 63, 3) := by decide +kernel
theorem dX9_draftFriends_10 : decode cX9_draftFriends 10 = .ok (.aload_n 0, 1) := by decide +kernel
theorem dX9_draftFriends_11 : decode cX9_draftFriends 11 = .ok (.getfield 9, 3) := by decide +kernel
theorem dX9_draftFriends_14 : decode cX9_draftFriends 14 = .ok (.iload_n 2, 1) := by decide +kernel
theorem dX9_draftFriends_15 : decode cX9_draftFriends 15 = .ok (.iaload, 1) := by decide +kernel
theorem dX9_draftFriends_16 : decode cX9_draftFriends 16 = .ok (.istore_n 3, 1) := by decide +kernel
theorem dX9_draftFriends_17 : decode cX9_draftFriends 17 = .ok (.iload_n 3, 1) := by decide +kernel
theorem dX9_draftFriends_18 : decode cX9_draftFriends 18 = .ok (.bipush 16, 2) := by decide +kernel
theorem dX9_draftFriends_20 : decode cX9_draftFriends 20 = .ok (.idiv, 1) := by decide +kernel
theorem dX9_draftFriends_21 : decode cX9_draftFriends 21 = .ok (.aload_n 1, 1) := by decide +kernel
theorem dX9_draftFriends_22 : decode cX9_draftFriends 22 = .ok (.getfield 100, 3) := by decide +kernel
theorem dX9_draftFriends_25 : decode cX9_draftFriends 25 = .ok (.if_icmp .ne 39, 3) := by decide +kernel
theorem dX9_draftFriends_28 : decode cX9_draftFriends 28 = .ok (.aload_n 0, 1) := by decide +kernel
theorem dX9_draftFriends_29 : decode cX9_draftFriends 29 = .ok (.getfield 18, 3) := by decide +kernel
theorem dX9_draftFriends_32 : decode cX9_draftFriends 32 = .ok (.iload_n 3, 1) := by decide +kernel
theorem dX9_draftFriends_33 : decode cX9_draftFriends 33 = .ok (.baload, 1) := by decide +kernel
theorem dX9_draftFriends_34 : decode cX9_draftFriends 34 = .ok (.ifCond .ne 6, 3) := by decide +kernel
theorem dX9_draftFriends_37 : decode cX9_draftFriends 37 = .ok (.goto 27, 3) := by decide +kernel
theorem dX9_draftFriends_40 : decode cX9_draftFriends 40 = .ok (.aload_n 0, 1) := by decide +kernel
theorem dX9_draftFriends_41 : decode cX9_draftFriends 41 = .ok (.getfield 45, 3) := by decide +kernel
theorem dX9_draftFriends_44 : decode cX9_draftFriends 44 = .ok (.iload_n 3, 1) := by decide +kernel
theorem dX9_draftFriends_45 : decode cX9_draftFriends 45 = .ok (.bipush 16, 2) := by decide +kernel
theorem dX9_draftFriends_47 : decode cX9_draftFriends 47 = .ok (.irem, 1) := by decide +kernel
theorem dX9_draftFriends_48 : decode cX9_draftFriends 48 = .ok (.iconst 1, 1) := by decide +kernel
theorem dX9_draftFriends_49 : decode cX9_draftFriends 49 = .ok (.iadd, 1) := by decide +kernel
theorem dX9_draftFriends_50 : decode cX9_draftFriends 50 = .ok (.aload_n 1, 1) := by decide +kernel
theorem dX9_draftFriends_51 : decode cX9_draftFriends 51 = .ok (.getfield 79, 3) := by decide +kernel
theorem dX9_draftFriends_54 : decode cX9_draftFriends 54 = .ok (.getfield 103, 3) := by decide +kernel
theorem dX9_draftFriends_57 : decode cX9_draftFriends 57 = .ok (.aload_n 1, 1) := by decide +kernel
theorem dX9_draftFriends_58 : decode cX9_draftFriends 58 = .ok (.getfield 90, 3) := by decide +kernel
theorem dX9_draftFriends_61 : decode cX9_draftFriends 61 = .ok (.invokevirtual 93, 3) := by decide +kernel
theorem dX9_draftFriends_64 : decode cX9_draftFriends 64 = .ok (.iinc 2 1, 3) := by decide +kernel
theorem dX9_draftFriends_67 : decode cX9_draftFriends 67 = .ok (.goto (-65), 3) := by decide +kernel
theorem dX9_draftFriends_70 : decode cX9_draftFriends 70 = .ok (.return_, 1) := by decide +kernel
theorem dX10_init_0 : decode cX10_init 0 = .ok (.aload_n 0, 1) := by decide +kernel
theorem dX10_init_1 : decode cX10_init 1 = .ok (.invokespecial 1, 3) := by decide +kernel
theorem dX10_init_4 : decode cX10_init 4 = .ok (.return_, 1) := by decide +kernel
theorem dX10_begin_0 : decode cX10_begin 0 = .ok (.aload_n 0, 1) := by decide +kernel
theorem dX10_begin_1 : decode cX10_begin 1 = .ok (.iconst 0, 1) := by decide +kernel
theorem dX10_begin_2 : decode cX10_begin 2 = .ok (.putfield 7, 3) := by decide +kernel
theorem dX10_begin_5 : decode cX10_begin 5 = .ok (.aload_n 0, 1) := by decide +kernel
theorem dX10_begin_6 : decode cX10_begin 6 = .ok (.iconst 0, 1) := by decide +kernel
theorem dX10_begin_7 : decode cX10_begin 7 = .ok (.putfield 13, 3) := by decide +kernel
theorem dX10_begin_10 : decode cX10_begin 10 = .ok (.aload_n 0, 1) := by decide +kernel
theorem dX10_begin_11 : decode cX10_begin 11 = .ok (.bipush 60, 2) := by decide +kernel
theorem dX10_begin_13 : decode cX10_begin 13 = .ok (.putfield 16, 3) := by decide +kernel
theorem dX10_begin_16 : decode cX10_begin 16 = .ok (.aload_n 0, 1) := by decide +kernel
theorem dX10_begin_17 : decode cX10_begin 17 = .ok (.iconst 0, 1) := by decide +kernel
theorem dX10_begin_18 : decode cX10_begin 18 = .ok (.putfield 19, 3) := by decide +kernel
theorem dX10_begin_21 : decode cX10_begin 21 = .ok (.aload_n 0, 1) := by decide +kernel
theorem dX10_begin_22 : decode cX10_begin 22 = .ok (.iconst 0, 1) := by decide +kernel
theorem dX10_begin_23 : decode cX10_begin 23 = .ok (.putfield 22, 3) := by decide +kernel
theorem dX10_begin_26 : decode cX10_begin 26 = .ok (.aload_n 0, 1) := by decide +kernel
theorem dX10_begin_27 : decode cX10_begin 27 = .ok (.iconst 0, 1) := by decide +kernel
theorem dX10_begin_28 : decode cX10_begin 28 = .ok (.putfield 25, 3) := by decide +kernel
theorem dX10_begin_31 : decode cX10_begin 31 = .ok (.aload_n 0, 1) := by decide +kernel
theorem dX10_begin_32 : decode cX10_begin 32 = .ok (.iconst 0, 1) := by decide +kernel
theorem dX10_begin_33 : decode cX10_begin 33 = .ok (.putfield 29, 3) := by decide +kernel
theorem dX10_begin_36 : decode cX10_begin 36 = .ok (.return_, 1) := by decide +kernel
theorem dX10_sentNew_0 : decode cX10_sentNew 0 = .ok (.aload_n 0, 1) := by decide +kernel
theorem dX10_sentNew_1 : decode cX10_sentNew 1 = .ok (.getfield 7, 3) := by decide +kernel
theorem dX10_sentNew_4 : decode cX10_sentNew 4 = .ok (.ifCond .ne 13, 3) := by decide +kernel
theorem dX10_sentNew_7 : decode cX10_sentNew 7 = .ok (.aload_n 0, 1) := by decide +kernel
theorem dX10_sentNew_8 : decode cX10_sentNew 8 = .ok (.iload_n 2, 1) := by decide +kernel
theorem dX10_sentNew_9 : decode cX10_sentNew 9 = .ok (.aload_n 0, 1) := by decide +kernel
theorem dX10_sentNew_10 : decode cX10_sentNew 10 = .ok (.getfield 16, 3) := by decide +kernel
theorem dX10_sentNew_13 : decode cX10_sentNew 13 = .ok (.iadd, 1) := by decide +kernel
theorem dX10_sentNew_14 : decode cX10_sentNew 14 = .ok (.putfield 7, 3) := by decide +kernel
theorem dX10_sentNew_17 : decode cX10_sentNew 17 = .ok (.aload_n 0, 1) := by decide +kernel
theorem dX10_sentNew_18 : decode cX10_sentNew 18 = .ok (.getfield 29, 3) := by decide +kernel
theorem dX10_sentNew_21 : decode cX10_sentNew 21 = .ok (.ifCond .eq 4, 3) := by decide +kernel
theorem dX10_sentNew_24 : decode cX10_sentNew 24 = .ok (.return_, 1) := by decide +kernel
theorem dX10_sentNew_25 : decode cX10_sentNew 25 = .ok (.aload_n 0, 1) := by decide +kernel
theorem dX10_sentNew_26 : decode cX10_sentNew 26 = .ok (.iconst 1, 1) := by decide +kernel
theorem dX10_sentNew_27 : decode cX10_sentNew 27 = .ok (.putfield 29, 3) := by decide +kernel
theorem dX10_sentNew_30 : decode cX10_sentNew 30 = .ok (.aload_n 0, 1) := by decide +kernel
theorem dX10_sentNew_31 : decode cX10_sentNew 31 = .ok (.iload_n 1, 1) := by decide +kernel
theorem dX10_sentNew_32 : decode cX10_sentNew 32 = .ok (.putfield 32, 3) := by decide +kernel
theorem dX10_sentNew_35 : decode cX10_sentNew 35 = .ok (.aload_n 0, 1) := by decide +kernel
theorem dX10_sentNew_36 : decode cX10_sentNew 36 = .ok (.iload_n 2, 1) := by decide +kernel
theorem dX10_sentNew_37 : decode cX10_sentNew 37 = .ok (.putfield 35, 3) := by decide +kernel
theorem dX10_sentNew_40 : decode cX10_sentNew 40 = .ok (.return_, 1) := by decide +kernel
theorem dX10_thanked_0 : decode cX10_thanked 0 = .ok (.aload_n 0, 1) := by decide +kernel
theorem dX10_thanked_1 : decode cX10_thanked 1 = .ok (.iconst 0, 1) := by decide +kernel
theorem dX10_thanked_2 : decode cX10_thanked 2 = .ok (.putfield 13, 3) := by decide +kernel
theorem dX10_thanked_5 : decode cX10_thanked 5 = .ok (.aload_n 0, 1) := by decide +kernel
theorem dX10_thanked_6 : decode cX10_thanked 6 = .ok (.getfield 29, 3) := by decide +kernel
theorem dX10_thanked_9 : decode cX10_thanked 9 = .ok (.ifCond .eq 14, 3) := by decide +kernel
theorem dX10_thanked_12 : decode cX10_thanked 12 = .ok (.iload_n 1, 1) := by decide +kernel
theorem dX10_thanked_13 : decode cX10_thanked 13 = .ok (.aload_n 0, 1) := by decide +kernel
theorem dX10_thanked_14 : decode cX10_thanked 14 = .ok (.getfield 32, 3) := by decide +kernel
theorem dX10_thanked_17 : decode cX10_thanked 17 = .ok (.invokestatic 38, 3) := by decide +kernel
theorem dX10_thanked_20 : decode cX10_thanked 20 = .ok (.ifCond .eq 4, 3) := by decide +kernel
theorem dX10_thanked_23 : decode cX10_thanked 23 = .ok (.return_, 1) := by decide +kernel
theorem dX10_thanked_24 : decode cX10_thanked 24 = .ok (.aload_n 0, 1) := by decide +kernel
theorem dX10_thanked_25 : decode cX10_thanked 25 = .ok (.iconst 0, 1) := by decide +kernel
theorem dX10_thanked_26 : decode cX10_thanked 26 = .ok (.putfield 29, 3) := by decide +kernel
theorem dX10_thanked_29 : decode cX10_thanked 29 = .ok (.iload_n 2, 1) := by decide +kernel
theorem dX10_thanked_30 : decode cX10_thanked 30 = .ok (.aload_n 0, 1) := by decide +kernel
theorem dX10_thanked_31 : decode cX10_thanked 31 = .ok (.getfield 35, 3) := by decide +kernel
theorem dX10_thanked_34 : decode cX10_thanked 34 = .ok (.isub, 1) := by decide +kernel
theorem dX10_thanked_35 : decode cX10_thanked 35 = .ok (.istore_n 3, 1) := by decide +kernel
theorem dX10_thanked_36 : decode cX10_thanked 36 = .ok (.aload_n 0, 1) := by decide +kernel
theorem dX10_thanked_37 : decode cX10_thanked 37 = .ok (.getfield 25, 3) := by decide +kernel
theorem dX10_thanked_40 : decode cX10_thanked 40 = .ok (.ifCond .eq 49, 3) := by decide +kernel
theorem dX10_thanked_43 : decode cX10_thanked 43 = .ok (.iload_n 3, 1) := by decide +kernel
theorem dX10_thanked_44 : decode cX10_thanked 44 = .ok (.aload_n 0, 1) := by decide +kernel
theorem dX10_thanked_45 : decode cX10_thanked 45 = .ok (.getfield 19, 3) := by decide +kernel
theorem dX10_thanked_48 : decode cX10_thanked 48 = .ok (.bipush 8, 2) := by decide +kernel
theorem dX10_thanked_50 : decode cX10_thanked 50 = .ok (.idiv, 1) := by decide +kernel
theorem dX10_thanked_51 : decode cX10_thanked 51 = .ok (.isub, 1) := by decide +kernel
theorem dX10_thanked_52 : decode cX10_thanked 52 = .ok (.istore 4, 2) := by decide +kernel
theorem dX10_thanked_54 : decode cX10_thanked 54 = .ok (.aload_n 0, 1) := by decide +kernel
theorem dX10_thanked_55 : decode cX10_thanked 55 = .ok (.dup, 1) := by decide +kernel
theorem dX10_thanked_56 : decode cX10_thanked 56 = .ok (.getfield 19, 3) := by decide +kernel
theorem dX10_thanked_59 : decode cX10_thanked 59 = .ok (.iload 4, 2) := by decide +kernel
theorem dX10_thanked_61 : decode cX10_thanked 61 = .ok (.iadd, 1) := by decide +kernel
theorem dX10_thanked_62 : decode cX10_thanked 62 = .ok (.putfield 19, 3) := by decide +kernel
theorem dX10_thanked_65 : decode cX10_thanked 65 = .ok (.aload_n 0, 1) := by decide +kernel
theorem dX10_thanked_66 : decode cX10_thanked 66 = .ok (.dup, 1) := by decide +kernel
theorem dX10_thanked_67 : decode cX10_thanked 67 = .ok (.getfield 22, 3) := by decide +kernel
theorem dX10_thanked_70 : decode cX10_thanked 70 = .ok (.iload 4, 2) := by decide +kernel
theorem dX10_thanked_72 : decode cX10_thanked 72 = .ok (.invokestatic 44, 3) := by decide +kernel
theorem dX10_thanked_75 : decode cX10_thanked 75 = .ok (.aload_n 0, 1) := by decide +kernel
theorem dX10_thanked_76 : decode cX10_thanked 76 = .ok (.getfield 22, 3) := by decide +kernel
theorem dX10_thanked_79 : decode cX10_thanked 79 = .ok (.iconst 4, 1) := by decide +kernel
theorem dX10_thanked_80 : decode cX10_thanked 80 = .ok (.idiv, 1) := by decide +kernel
theorem dX10_thanked_81 : decode cX10_thanked 81 = .ok (.isub, 1) := by decide +kernel
theorem dX10_thanked_82 : decode cX10_thanked 82 = .ok (.iadd, 1) := by decide +kernel
theorem dX10_thanked_83 : decode cX10_thanked 83 = .ok (.putfield 22, 3) := by decide +kernel
theorem dX10_thanked_86 : decode cX10_thanked 86 = .ok (.goto 23, 3) := by decide +kernel
theorem dX10_thanked_89 : decode cX10_thanked 89 = .ok (.aload_n 0, 1) := by decide +kernel
theorem dX10_thanked_90 : decode cX10_thanked 90 = .ok (.iconst 1, 1) := by decide +kernel
theorem dX10_thanked_91 : decode cX10_thanked 91 = .ok (.putfield 25, 3) := by decide +kernel
theorem dX10_thanked_94 : decode cX10_thanked 94 = .ok (.aload_n 0, 1) := by decide +kernel
theorem dX10_thanked_95 : decode cX10_thanked 95 = .ok (.bipush 8, 2) := by decide +kernel
theorem dX10_thanked_97 : decode cX10_thanked 97 = .ok (.iload_n 3, 1) := by decide +kernel
theorem dX10_thanked_98 : decode cX10_thanked 98 = .ok (.imul, 1) := by decide +kernel
theorem dX10_thanked_99 : decode cX10_thanked 99 = .ok (.putfield 19, 3) := by decide +kernel
theorem dX10_thanked_102 : decode cX10_thanked 102 = .ok (.aload_n 0, 1) := by decide +kernel
theorem dX10_thanked_103 : decode cX10_thanked 103 = .ok (.iconst 2, 1) := by decide +kernel
theorem dX10_thanked_104 : decode cX10_thanked 104 = .ok (.iload_n 3, 1) := by decide +kernel
theorem dX10_thanked_105 : decode cX10_thanked 105 = .ok (.imul, 1) := by decide +kernel
theorem dX10_thanked_106 : decode cX10_thanked 106 = .ok (.putfield 22, 3) := by decide +kernel
theorem dX10_thanked_109 : decode cX10_thanked 109 = .ok (.aload_n 0, 1) := by decide +kernel
theorem dX10_thanked_110 : decode cX10_thanked 110 = .ok (.bipush 20, 2) := by decide +kernel
theorem dX10_thanked_112 : decode cX10_thanked 112 = .ok (.sipush 1200, 3) := by decide +kernel
theorem dX10_thanked_115 : decode cX10_thanked 115 = .ok (.aload_n 0, 1) := by decide +kernel
theorem dX10_thanked_116 : decode cX10_thanked 116 = .ok (.getfield 19, 3) := by decide +kernel
theorem dX10_thanked_119 : decode cX10_thanked 119 = .ok (.bipush 8, 2) := by decide +kernel
theorem dX10_thanked_121 : decode cX10_thanked 121 = .ok (.idiv, 1) := by decide +kernel
theorem dX10_thanked_122 : decode cX10_thanked 122 = .ok (.aload_n 0, 1) := by decide +kernel
theorem dX10_thanked_123 : decode cX10_thanked 123 = .ok (.getfield 22, 3) := by decide +kernel
theorem dX10_thanked_126 : decode cX10_thanked 126 = .ok (.iconst 1, 1) := by decide +kernel
theorem dX10_thanked_127 : decode cX10_thanked 127 = .ok (.invokestatic 50, 3) := by decide +kernel
theorem dX10_thanked_130 : decode cX10_thanked 130 = .ok (.iadd, 1) := by decide +kernel
theorem dX10_thanked_131 : decode cX10_thanked 131 = .ok (.invokestatic 54, 3) := by decide +kernel
theorem dX10_thanked_134 : decode cX10_thanked 134 = .ok (.invokestatic 50, 3) := by decide +kernel
theorem dX10_thanked_137 : decode cX10_thanked 137 = .ok (.putfield 16, 3) := by decide +kernel
theorem dX10_thanked_140 : decode cX10_thanked 140 = .ok (.return_, 1) := by decide +kernel
theorem dX11_init_0 : decode cX11_init 0 = .ok (.aload_n 0, 1) := by decide +kernel
theorem dX11_init_1 : decode cX11_init 1 = .ok (.invokespecial 1, 3) := by decide +kernel
theorem dX11_init_4 : decode cX11_init 4 = .ok (.aload_n 0, 1) := by decide +kernel
theorem dX11_init_5 : decode cX11_init 5 = .ok (.bipush 24, 2) := by decide +kernel
theorem dX11_init_7 : decode cX11_init 7 = .ok (.anewarray 9, 3) := by decide +kernel
theorem dX11_init_10 : decode cX11_init 10 = .ok (.putfield 11, 3) := by decide +kernel
theorem dX11_init_13 : decode cX11_init 13 = .ok (.aload_n 0, 1) := by decide +kernel
theorem dX11_init_14 : decode cX11_init 14 = .ok (.bipush 16, 2) := by decide +kernel
theorem dX11_init_16 : decode cX11_init 16 = .ok (.anewarray 15, 3) := by decide +kernel
theorem dX11_init_19 : decode cX11_init 19 = .ok (.putfield 17, 3) := by decide +kernel
theorem dX11_init_22 : decode cX11_init 22 = .ok (.aload_n 0, 1) := by decide +kernel
theorem dX11_init_23 : decode cX11_init 23 = .ok (.sipush 256, 3) := by decide +kernel
theorem dX11_init_26 : decode cX11_init 26 = .ok (.anewarray 21, 3) := by decide +kernel
theorem dX11_init_29 : decode cX11_init 29 = .ok (.putfield 23, 3) := by decide +kernel
theorem dX11_init_32 : decode cX11_init 32 = .ok (.aload_n 0, 1) := by decide +kernel
theorem dX11_init_33 : decode cX11_init 33 = .ok (.sipush 256, 3) := by decide +kernel
theorem dX11_init_36 : decode cX11_init 36 = .ok (.anewarray 21, 3) := by decide +kernel
theorem dX11_init_39 : decode cX11_init 39 = .ok (.putfield 27, 3) := by decide +kernel
theorem dX11_init_42 : decode cX11_init 42 = .ok (.aload_n 0, 1) := by decide +kernel
theorem dX11_init_43 : decode cX11_init 43 = .ok (.new 21, 3) := by decide +kernel
theorem dX11_init_46 : decode cX11_init 46 = .ok (.dup, 1) := by decide +kernel
theorem dX11_init_47 : decode cX11_init 47 = .ok (.invokespecial 30, 3) := by decide +kernel
theorem dX11_init_50 : decode cX11_init 50 = .ok (.putfield 31, 3) := by decide +kernel
theorem dX11_init_53 : decode cX11_init 53 = .ok (.aload_n 0, 1) := by decide +kernel
theorem dX11_init_54 : decode cX11_init 54 = .ok (.new 21, 3) := by decide +kernel
theorem dX11_init_57 : decode cX11_init 57 = .ok (.dup, 1) := by decide +kernel
theorem dX11_init_58 : decode cX11_init 58 = .ok (.invokespecial 30, 3) := by decide +kernel
theorem dX11_init_61 : decode cX11_init 61 = .ok (.putfield 35, 3) := by decide +kernel
theorem dX11_init_64 : decode cX11_init 64 = .ok (.aload_n 0, 1) := by decide +kernel
theorem dX11_init_65 : decode cX11_init 65 = .ok (.sipush 512, 3) := by decide +kernel
theorem dX11_init_68 : decode cX11_init 68 = .ok (.newarray .int, 2) := by decide +kernel
theorem dX11_init_70 : decode cX11_init 70 = .ok (.putfield 38, 3) := by decide +kernel
theorem dX11_init_73 : decode cX11_init 73 = .ok (.aload_n 0, 1) := by decide +kernel
theorem dX11_init_74 : decode cX11_init 74 = .ok (.sipush 512, 3) := by decide +kernel
theorem dX11_init_77 : decode cX11_init 77 = .ok (.newarray .int, 2) := by decide +kernel
theorem dX11_init_79 : decode cX11_init 79 = .ok (.putfield 42, 3) := by decide +kernel
theorem dX11_init_82 : decode cX11_init 82 = .ok (.aload_n 0, 1) := by decide +kernel
theorem dX11_init_83 : decode cX11_init 83 = .ok (.sipush 512, 3) := by decide +kernel
theorem dX11_init_86 : decode cX11_init 86 = .ok (.newarray .long, 2) := by decide +kernel
theorem dX11_init_88 : decode cX11_init 88 = .ok (.putfield 45, 3) := by decide +kernel
theorem dX11_init_91 : decode cX11_init 91 = .ok (.aload_n 0, 1) := by decide +kernel
theorem dX11_init_92 : decode cX11_init 92 = .ok (.bipush 16, 2) := by decide +kernel
theorem dX11_init_94 : decode cX11_init 94 = .ok (.newarray .int, 2) := by decide +kernel
theorem dX11_init_96 : decode cX11_init 96 = .ok (.putfield 49, 3) := by decide +kernel
theorem dX11_init_99 : decode cX11_init 99 = .ok (.iconst 0, 1) := by decide +kernel
theorem dX11_init_100 : decode cX11_init 100 = .ok (.istore_n 1, 1) := by decide +kernel
theorem dX11_init_101 : decode cX11_init 101 = .ok (.iload_n 1, 1) := by decide +kernel
theorem dX11_init_102 : decode cX11_init 102 = .ok (.bipush 24, 2) := by decide +kernel
theorem dX11_init_104 : decode cX11_init 104 = .ok (.if_icmp .ge 23, 3) := by decide +kernel
theorem dX11_init_107 : decode cX11_init 107 = .ok (.aload_n 0, 1) := by decide +kernel
theorem dX11_init_108 : decode cX11_init 108 = .ok (.getfield 11, 3) := by decide +kernel
theorem dX11_init_111 : decode cX11_init 111 = .ok (.iload_n 1, 1) := by decide +kernel
theorem dX11_init_112 : decode cX11_init 112 = .ok (.new 9, 3) := by decide +kernel
theorem dX11_init_115 : decode cX11_init 115 = .ok (.dup, 1) := by decide +kernel
theorem dX11_init_116 : decode cX11_init 116 = .ok (.iload_n 1, 1) := by decide +kernel
theorem dX11_init_117 : decode cX11_init 117 = .ok (.invokespecial 52, 3) := by decide +kernel
theorem dX11_init_120 : decode cX11_init 120 = .ok (.aastore, 1) := by decide +kernel
theorem dX11_init_121 : decode cX11_init 121 = .ok (.iinc 1 1, 3) := by decide +kernel
theorem dX11_init_124 : decode cX11_init 124 = .ok (.goto (-23), 3) := by decide +kernel
theorem dX11_init_127 : decode cX11_init 127 = .ok (.iconst 0, 1) := by decide +kernel
theorem dX11_init_128 : decode cX11_init 128 = .ok (.istore_n 1, 1) := by decide +kernel
theorem dX11_init_129 : decode cX11_init 129 = .ok (.iload_n 1, 1) := by decide +kernel
theorem dX11_init_130 : decode cX11_init 130 = .ok (.sipush 512, 3) := by decide +kernel
theorem dX11_init_133 : decode cX11_init 133 = .ok (.if_icmp .gt 30, 3) := by decide +kernel
theorem dX11_init_136 : decode cX11_init 136 = .ok (.new 21, 3) := by decide +kernel
theorem dX11_init_139 : decode cX11_init 139 = .ok (.dup, 1) := by decide +kernel
theorem dX11_init_140 : decode cX11_init 140 = .ok (.invokespecial 30, 3) := by decide +kernel
theorem dX11_init_143 : decode cX11_init 143 = .ok (.astore_n 2, 1) := by decide +kernel
theorem dX11_init_144 : decode cX11_init 144 = .ok (.aload_n 2, 1) := by decide +kernel
theorem dX11_init_145 : decode cX11_init 145 = .ok (.aload_n 0, 1) := by decide +kernel
theorem dX11_init_146 : decode cX11_init 146 = .ok (.getfield 55, 3) := by decide +kernel
theorem dX11_init_149 : decode cX11_init 149 = .ok (.putfield 58, 3) := by decide +kernel
theorem dX11_init_152 : decode cX11_init 152 = .ok (.aload_n 0, 1) := by decide +kernel
theorem dX11_init_153 : decode cX11_init 153 = .ok (.aload_n 2, 1) := by decide +kernel
theorem dX11_init_154 : decode cX11_init 154 = .ok (.putfield 55, 3) := by decide +kernel
theorem dX11_init_157 : decode cX11_init 157 = .ok (.iinc 1 1, 3) := by decide +kernel
theorem dX11_init_160 : decode cX11_init 160 = .ok (.goto (-31), 3) := by decide +kernel
theorem dX11_init_163 : decode cX11_init 163 = .ok (.return_, 1) := by decide +kernel
theorem dX11_box_0 : decode cX11_box 0 = .ok (.aload_n 0, 1) := by decide +kernel
theorem dX11_box_1 : decode cX11_box 1 = .ok (.getfield 61, 3) := by decide +kernel
theorem dX11_box_4 : decode cX11_box 4 = .ok (.bipush 16, 2) := by decide +kernel
theorem dX11_box_6 : decode cX11_box 6 = .ok (.if_icmp .lt 13, 3) := by decide +kernel
theorem dX11_box_9 : decode cX11_box 9 = .ok (.new 65, 3) := by decide +kernel
theorem dX11_box_12 : decode cX11_box 12 = .ok (.dup, 1) := by decide +kernel
theorem dX11_box_13 : decode cX11_box 13 = .ok (.ldc 67, 2) := by decide +kernel
theorem dX11_box_15 : decode cX11_box 15 = .ok (.invokespecial 69, 3) := by decide +kernel
theorem dX11_box_18 : decode cX11_box 18 = .ok (.athrow, 1) := by decide +kernel
theorem dX11_box_19 : decode cX11_box 19 = .ok (.aload_n 0, 1) := by decide +kernel
theorem dX11_box_20 : decode cX11_box 20 = .ok (.getfield 17, 3) := by decide +kernel
theorem dX11_box_23 : decode cX11_box 23 = .ok (.aload_n 0, 1) := by decide +kernel
theorem dX11_box_24 : decode cX11_box 24 = .ok (.getfield 61, 3) := by decide +kernel
theorem dX11_box_27 : decode cX11_box 27 = .ok (.new 15, 3) := by decide +kernel
theorem dX11_box_30 : decode cX11_box 30 = .ok (.dup, 1) := by decide +kernel
theorem dX11_box_31 : decode cX11_box 31 = .ok (.aload_n 0, 1) := by decide +kernel
theorem dX11_box_32 : decode cX11_box 32 = .ok (.getfield 61, 3) := by decide +kernel
theorem dX11_box_35 : decode cX11_box 35 = .ok (.iload_n 1, 1) := by decide +kernel
theorem dX11_box_36 : decode cX11_box 36 = .ok (.invokespecial 72, 3) := by decide +kernel
theorem dX11_box_39 : decode cX11_box 39 = .ok (.aastore, 1) := by decide +kernel
theorem dX11_box_40 : decode cX11_box 40 = .ok (.aload_n 0, 1) := by decide +kernel
theorem dX11_box_41 : decode cX11_box 41 = .ok (.dup, 1) := by decide +kernel
theorem dX11_box_42 : decode cX11_box 42 = .ok (.getfield 61, 3) := by decide +kernel
theorem dX11_box_45 : decode cX11_box 45 = .ok (.iconst 1, 1) := by decide +kernel
theorem dX11_box_46 : decode cX11_box 46 = .ok (.iadd, 1) := by decide +kernel
theorem dX11_box_47 : decode cX11_box 47 = .ok (.putfield 61, 3) := by decide +kernel
theorem dX11_box_50 : decode cX11_box 50 = .ok (.aload_n 0, 1) := by decide +kernel
theorem dX11_box_51 : decode cX11_box 51 = .ok (.invokevirtual 75, 3) := by decide +kernel
theorem dX11_box_54 : decode cX11_box 54 = .ok (.aload_n 0, 1) := by decide +kernel
theorem dX11_box_55 : decode cX11_box 55 = .ok (.getfield 61, 3) := by decide +kernel
theorem dX11_box_58 : decode cX11_box 58 = .ok (.iconst 1, 1) := by decide +kernel
theorem dX11_box_59 : decode cX11_box 59 = .ok (.isub, 1) := by decide +kernel
theorem dX11_box_60 : decode cX11_box 60 = .ok (.ireturn, 1) := by decide +kernel
theorem dX11_net_0 : decode cX11_net 0 = .ok (.iload_n 1, 1) := by decide +kernel
theorem dX11_net_1 : decode cX11_net 1 = .ok (.bipush 100, 2) := by decide +kernel
theorem dX11_net_3 : decode cX11_net 3 = .ok (.if_icmp .lt 10, 3) := by decide +kernel
theorem dX11_net_6 : decode cX11_net 6 = .ok (.iload_n 1, 1) := by decide +kernel
theorem dX11_net_7 : decode cX11_net 7 = .ok (.sipush 1500, 3) := by decide +kernel
theorem dX11_net_10 : decode cX11_net 10 = .ok (.if_icmp .le 13, 3) := by decide +kernel
theorem dX11_net_13 : decode cX11_net 13 = .ok (.new 78, 3) := by decide +kernel
theorem dX11_net_16 : decode cX11_net 16 = .ok (.dup, 1) := by decide +kernel
theorem dX11_net_17 : decode cX11_net 17 = .ok (.ldc 80, 2) := by decide +kernel
theorem dX11_net_19 : decode cX11_net 19 = .ok (.invokespecial 82, 3) := by decide +kernel
theorem dX11_net_22 : decode cX11_net 22 = .ok (.athrow, 1) := by decide +kernel
theorem dX11_net_23 : decode cX11_net 23 = .ok (.iload_n 2, 1) := by decide +kernel
theorem dX11_net_24 : decode cX11_net 24 = .ok (.iconst 1, 1) := by decide +kernel
theorem dX11_net_25 : decode cX11_net 25 = .ok (.if_icmp .lt 9, 3) := by decide +kernel
theorem dX11_net_28 : decode cX11_net 28 = .ok (.iload_n 2, 1) := by decide +kernel
theorem dX11_net_29 : decode cX11_net 29 = .ok (.bipush 50, 2) := by decide +kernel
theorem dX11_net_31 : decode cX11_net 31 = .ok (.if_icmp .le 13, 3) := by decide +kernel
theorem dX11_net_34 : decode cX11_net 34 = .ok (.new 78, 3) := by decide +kernel
theorem dX11_net_37 : decode cX11_net 37 = .ok (.dup, 1) := by decide +kernel
theorem dX11_net_38 : decode cX11_net 38 = .ok (.ldc 83, 2) := by decide +kernel
theorem dX11_net_40 : decode cX11_net 40 = .ok (.invokespecial 82, 3) := by decide +kernel
theorem dX11_net_43 : decode cX11_net 43 = .ok (.athrow, 1) := by decide +kernel
theorem dX11_net_44 : decode cX11_net 44 = .ok (.aload_n 0, 1) := by decide +kernel
theorem dX11_net_45 : decode cX11_net 45 = .ok (.getfield 85, 3) := by decide +kernel
theorem dX11_net_48 : decode cX11_net 48 = .ok (.bipush 24, 2) := by decide +kernel
theorem dX11_net_50 : decode cX11_net 50 = .ok (.if_icmp .lt 13, 3) := by decide +kernel
theorem dX11_net_53 : decode cX11_net 53 = .ok (.new 65, 3) := by decide +kernel
theorem dX11_net_56 : decode cX11_net 56 = .ok (.dup, 1) := by decide +kernel
theorem dX11_net_57 : decode cX11_net 57 = .ok (.ldc 88, 2) := by decide +kernel
theorem dX11_net_59 : decode cX11_net 59 = .ok (.invokespecial 69, 3) := by decide +kernel
theorem dX11_net_62 : decode cX11_net 62 = .ok (.athrow, 1) := by decide +kernel
theorem dX11_net_63 : decode cX11_net 63 = .ok (.aload_n 0, 1) := by decide +kernel
theorem dX11_net_64 : decode cX11_net 64 = .ok (.getfield 11, 3) := by decide +kernel
theorem dX11_net_67 : decode cX11_net 67 = .ok (.aload_n 0, 1) := by decide +kernel
theorem dX11_net_68 : decode cX11_net 68 = .ok (.getfield 85, 3) := by decide +kernel
theorem dX11_net_71 : decode cX11_net 71 = .ok (.aaload, 1) := by decide +kernel
theorem dX11_net_72 : decode cX11_net 72 = .ok (.iload_n 1, 1) := by decide +kernel
theorem dX11_net_73 : decode cX11_net 73 = .ok (.putfield 90, 3) := by decide +kernel
theorem dX11_net_76 : decode cX11_net 76 = .ok (.aload_n 0, 1) := by decide +kernel
theorem dX11_net_77 : decode cX11_net 77 = .ok (.getfield 11, 3) := by decide +kernel
theorem dX11_net_80 : decode cX11_net 80 = .ok (.aload_n 0, 1) := by decide +kernel
theorem dX11_net_81 : decode cX11_net 81 = .ok (.getfield 85, 3) := by decide +kernel
theorem dX11_net_84 : decode cX11_net 84 = .ok (.aaload, 1) := by decide +kernel
theorem dX11_net_85 : decode cX11_net 85 = .ok (.iload_n 2, 1) := by decide +kernel
theorem dX11_net_86 : decode cX11_net 86 = .ok (.putfield 93, 3) := by decide +kernel
theorem dX11_net_89 : decode cX11_net 89 = .ok (.aload_n 0, 1) := by decide +kernel
theorem dX11_net_90 : decode cX11_net 90 = .ok (.dup, 1) := by decide +kernel
theorem dX11_net_91 : decode cX11_net 91 = .ok (.getfield 85, 3) := by decide +kernel
theorem dX11_net_94 : decode cX11_net 94 = .ok (.iconst 1, 1) := by decide +kernel
theorem dX11_net_95 : decode cX11_net 95 = .ok (.iadd, 1) := by decide +kernel
theorem dX11_net_96 : decode cX11_net 96 = .ok (.putfield 85, 3) := by decide +kernel
theorem dX11_net_99 : decode cX11_net 99 = .ok (.aload_n 0, 1) := by decide +kernel
theorem dX11_net_100 : decode cX11_net 100 = .ok (.invokevirtual 96, 3) := by decide +kernel
theorem dX11_net_103 : decode cX11_net 103 = .ok (.aload_n 0, 1) := by decide +kernel
theorem dX11_net_104 : decode cX11_net 104 = .ok (.getfield 85, 3) := by decide +kernel
theorem dX11_net_107 : decode cX11_net 107 = .ok (.iconst 1, 1) := by decide +kernel
theorem dX11_net_108 : decode cX11_net 108 = .ok (.isub, 1) := by decide +kernel
theorem dX11_net_109 : decode cX11_net 109 = .ok (.ireturn, 1) := by decide +kernel
theorem dX11_join_0 : decode cX11_join 0 = .ok (.aload_n 0, 1) := by decide +kernel
theorem dX11_join_1 : decode cX11_join 1 = .ok (.iload_n 1, 1) := by decide +kernel
theorem dX11_join_2 : decode cX11_join 2 = .ok (.invokevirtual 99, 3) := by decide +kernel
theorem dX11_join_5 : decode cX11_join 5 = .ok (.astore_n 3, 1) := by decide +kernel
theorem dX11_join_6 : decode cX11_join 6 = .ok (.aload_n 0, 1) := by decide +kernel
theorem dX11_join_7 : decode cX11_join 7 = .ok (.iload_n 2, 1) := by decide +kernel
theorem dX11_join_8 : decode cX11_join 8 = .ok (.invokevirtual 103, 3) := by decide +kernel
theorem dX11_join_11 : decode cX11_join 11 = .ok (.astore 4, 2) := by decide +kernel
theorem dX11_join_13 : decode cX11_join 13 = .ok (.aload_n 3, 1) := by decide +kernel
theorem dX11_join_14 : decode cX11_join 14 = .ok (.ifnull 8, 3) := by decide +kernel
theorem dX11_join_17 : decode cX11_join 17 = .ok (.aload 4, 2) := by decide +kernel
theorem dX11_join_19 : decode cX11_join 19 = .ok (.ifnonnull 13, 3) := by decide +kernel
theorem dX11_join_22 : decode cX11_join 22 = .ok (.new 78, 3) := by decide +kernel
theorem dX11_join_25 : decode cX11_join 25 = .ok (.dup, 1) := by decide +kernel
theorem dX11_join_26 : decode cX11_join 26 = .ok (.ldc 107, 2) := by decide +kernel
theorem dX11_join_28 : decode cX11_join 28 = .ok (.invokespecial 82, 3) := by decide +kernel
theorem dX11_join_31 : decode cX11_join 31 = .ok (.athrow, 1) := by decide +kernel
theorem dX11_join_32 : decode cX11_join 32 = .ok (.aload_n 3, 1) := by decide +kernel
theorem dX11_join_33 : decode cX11_join 33 = .ok (.getfield 109, 3) := by decide +kernel
theorem dX11_join_36 : decode cX11_join 36 = .ok (.ifCond .eq 8, 3) := by decide +kernel
theorem dX11_join_39 : decode cX11_join 39 = .ok (.bipush 6, 2) := by decide +kernel
theorem dX11_join_41 : decode cX11_join 41 = .ok (.goto 4, 3) := by decide +kernel
theorem dX11_join_44 : decode cX11_join 44 = .ok (.iconst 1, 1) := by decide +kernel
theorem dX11_join_45 : decode cX11_join 45 = .ok (.istore 5, 2) := by decide +kernel
theorem dX11_join_47 : decode cX11_join 47 = .ok (.aload_n 3, 1) := by decide +kernel
theorem dX11_join_48 : decode cX11_join 48 = .ok (.getfield 113, 3) := by decide +kernel
theorem dX11_join_51 : decode cX11_join 51 = .ok (.iload 5, 2) := by decide +kernel
theorem dX11_join_53 : decode cX11_join 53 = .ok (.if_icmp .lt 13, 3) := by decide +kernel
theorem dX11_join_56 : decode cX11_join 56 = .ok (.new 65, 3) := by decide +kernel
theorem dX11_join_59 : decode cX11_join 59 = .ok (.dup, 1) := by decide +kernel
theorem dX11_join_60 : decode cX11_join 60 = .ok (.ldc 116, 2) := by decide +kernel
theorem dX11_join_62 : decode cX11_join 62 = .ok (.invokespecial 69, 3) := by decide +kernel
theorem dX11_join_65 : decode cX11_join 65 = .ok (.athrow, 1) := by decide +kernel
theorem dX11_join_66 : decode cX11_join 66 = .ok (.aload_n 3, 1) := by decide +kernel
theorem dX11_join_67 : decode cX11_join 67 = .ok (.iload_n 2, 1) := by decide +kernel
theorem dX11_join_68 : decode cX11_join 68 = .ok (.invokevirtual 118, 3) := by decide +kernel
theorem dX11_join_71 : decode cX11_join 71 = .ok (.ifnull 13, 3) := by decide +kernel
theorem dX11_join_74 : decode cX11_join 74 = .ok (.new 65, 3) := by decide +kernel
theorem dX11_join_77 : decode cX11_join 77 = .ok (.dup, 1) := by decide +kernel
theorem dX11_join_78 : decode cX11_join 78 = .ok (.ldc 122, 2) := by decide +kernel
theorem dX11_join_80 : decode cX11_join 80 = .ok (.invokespecial 69, 3) := by decide +kernel
theorem dX11_join_83 : decode cX11_join 83 = .ok (.athrow, 1) := by decide +kernel
theorem dX11_join_84 : decode cX11_join 84 = .ok (.aload 4, 2) := by decide +kernel
theorem dX11_join_86 : decode cX11_join 86 = .ok (.getfield 124, 3) := by decide +kernel
theorem dX11_join_89 : decode cX11_join 89 = .ok (.bipush 8, 2) := by decide +kernel
theorem dX11_join_91 : decode cX11_join 91 = .ok (.if_icmp .lt 13, 3) := by decide +kernel
theorem dX11_join_94 : decode cX11_join 94 = .ok (.new 65, 3) := by decide +kernel
theorem dX11_join_97 : decode cX11_join 97 = .ok (.dup, 1) := by decide +kernel
theorem dX11_join_98 : decode cX11_join 98 = .ok (.ldc 127, 2) := by decide +kernel
theorem dX11_join_100 : decode cX11_join 100 = .ok (.invokespecial 69, 3) := by decide +kernel
theorem dX11_join_103 : decode cX11_join 103 = .ok (.athrow, 1) := by decide +kernel
theorem dX11_join_104 : decode cX11_join 104 = .ok (.new 129, 3) := by decide +kernel
theorem dX11_join_107 : decode cX11_join 107 = .ok (.dup, 1) := by decide +kernel
theorem dX11_join_108 : decode cX11_join 108 = .ok (.aload_n 3, 1) := by decide +kernel
theorem dX11_join_109 : decode cX11_join 109 = .ok (.aload 4, 2) := by decide +kernel
theorem dX11_join_111 : decode cX11_join 111 = .ok (.aload_n 3, 1) := by decide +kernel
theorem dX11_join_112 : decode cX11_join 112 = .ok (.getfield 113, 3) := by decide +kernel
theorem dX11_join_115 : decode cX11_join 115 = .ok (.aload 4, 2) := by decide +kernel
theorem dX11_join_117 : decode cX11_join 117 = .ok (.getfield 124, 3) := by decide +kernel
theorem dX11_join_120 : decode cX11_join 120 = .ok (.invokespecial 131, 3) := by decide +kernel
theorem dX11_join_123 : decode cX11_join 123 = .ok (.astore 6, 2) := by decide +kernel
theorem dX11_join_125 : decode cX11_join 125 = .ok (.aload_n 3, 1) := by decide +kernel
theorem dX11_join_126 : decode cX11_join 126 = .ok (.getfield 134, 3) := by decide +kernel
theorem dX11_join_129 : decode cX11_join 129 = .ok (.aload_n 3, 1) := by decide +kernel
theorem dX11_join_130 : decode cX11_join 130 = .ok (.getfield 113, 3) := by decide +kernel
theorem dX11_join_133 : decode cX11_join 133 = .ok (.aload 6, 2) := by decide +kernel
theorem dX11_join_135 : decode cX11_join 135 = .ok (.aastore, 1) := by decide +kernel
theorem dX11_join_136 : decode cX11_join 136 = .ok (.aload_n 3, 1) := by decide +kernel
theorem dX11_join_137 : decode cX11_join 137 = .ok (.dup, 1) := by decide +kernel
theorem dX11_join_138 : decode cX11_join 138 = .ok (.getfield 113, 3) := by decide +kernel
theorem dX11_join_141 : decode cX11_join 141 = .ok (.iconst 1, 1) := by decide +kernel
theorem dX11_join_142 : decode cX11_join 142 = .ok (.iadd, 1) := by decide +kernel
theorem dX11_join_143 : decode cX11_join 143 = .ok (.putfield 113, 3) := by decide +kernel
theorem dX11_join_146 : decode cX11_join 146 = .ok (.aload 4, 2) := by decide +kernel
theorem dX11_join_148 : decode cX11_join 148 = .ok (.getfield 138, 3) := by decide +kernel
theorem dX11_join_151 : decode cX11_join 151 = .ok (.aload 4, 2) := by decide +kernel
theorem dX11_join_153 : decode cX11_join 153 = .ok (.getfield 124, 3) := by decide +kernel
theorem dX11_join_156 : decode cX11_join 156 = .ok (.aload 6, 2) := by decide +kernel
theorem dX11_join_158 : decode cX11_join 158 = .ok (.aastore, 1) := by decide +kernel
theorem dX11_join_159 : decode cX11_join 159 = .ok (.aload 4, 2) := by decide +kernel
theorem dX11_join_161 : decode cX11_join 161 = .ok (.dup, 1) := by decide +kernel
theorem dX11_join_162 : decode cX11_join 162 = .ok (.getfield 124, 3) := by decide +kernel
theorem dX11_join_165 : decode cX11_join 165 = .ok (.iconst 1, 1) := by decide +kernel
theorem dX11_join_166 : decode cX11_join 166 = .ok (.iadd, 1) := by decide +kernel
theorem dX11_join_167 : decode cX11_join 167 = .ok (.putfield 124, 3) := by decide +kernel
theorem dX11_join_170 : decode cX11_join 170 = .ok (.aload_n 0, 1) := by decide +kernel
theorem dX11_join_171 : decode cX11_join 171 = .ok (.invokevirtual 96, 3) := by decide +kernel
theorem dX11_join_174 : decode cX11_join 174 = .ok (.aload 6, 2) := by decide +kernel
theorem dX11_join_176 : decode cX11_join 176 = .ok (.getfield 141, 3) := by decide +kernel
theorem dX11_join_179 : decode cX11_join 179 = .ok (.ireturn, 1) := by decide +kernel
theorem dX11_cost_0 : decode cX11_cost 0 = .ok (.aload_n 0, 1) := by decide +kernel
theorem dX11_cost_1 : decode cX11_cost 1 = .ok (.iload_n 1, 1) := by decide +kernel
theorem dX11_cost_2 : decode cX11_cost 2 = .ok (.invokevirtual 144, 3) := by decide +kernel
theorem dX11_cost_5 : decode cX11_cost 5 = .ok (.astore 4, 2) := by decide +kernel
theorem dX11_cost_7 : decode cX11_cost 7 = .ok (.aload 4, 2) := by decide +kernel
theorem dX11_cost_9 : decode cX11_cost 9 = .ok (.ifnull 11, 3) := by decide +kernel
theorem dX11_cost_12 : decode cX11_cost 12 = .ok (.aload_n 0, 1) := by decide +kernel
theorem dX11_cost_13 : decode cX11_cost 13 = .ok (.iload_n 2, 1) := by decide +kernel
theorem dX11_cost_14 : decode cX11_cost 14 = .ok (.invokevirtual 103, 3) := by decide +kernel
theorem dX11_cost_17 : decode cX11_cost 17 = .ok (.ifnonnull 13, 3) := by decide +kernel
theorem dX11_cost_20 : decode cX11_cost 20 = .ok (.new 78, 3) := by decide +kernel
theorem dX11_cost_23 : decode cX11_cost 23 = .ok (.dup, 1) := by decide +kernel
theorem dX11_cost_24 : decode cX11_cost 24 = .ok (.ldc 147, 2) := by decide +kernel
theorem dX11_cost_26 : decode cX11_cost 26 = .ok (.invokespecial 82, 3) := by decide +kernel
theorem dX11_cost_29 : decode cX11_cost 29 = .ok (.athrow, 1) := by decide +kernel
theorem dX11_cost_30 : decode cX11_cost 30 = .ok (.aload 4, 2) := by decide +kernel
theorem dX11_cost_32 : decode cX11_cost 32 = .ok (.iload_n 2, 1) := by decide +kernel
theorem dX11_cost_33 : decode cX11_cost 33 = .ok (.invokevirtual 118, 3) := by decide +kernel
theorem dX11_cost_36 : decode cX11_cost 36 = .ok (.astore 5, 2) := by decide +kernel
theorem dX11_cost_38 : decode cX11_cost 38 = .ok (.aload 5, 2) := by decide +kernel
theorem dX11_cost_40 : decode cX11_cost 40 = .ok (.ifnonnull 13, 3) := by decide +kernel
theorem dX11_cost_43 : decode cX11_cost 43 = .ok (.new 78, 3) := by decide +kernel
theorem dX11_cost_46 : decode cX11_cost 46 = .ok (.dup, 1) := by decide +kernel
theorem dX11_cost_47 : decode cX11_cost 47 = .ok (.ldc 149, 2) := by decide +kernel
theorem dX11_cost_49 : decode cX11_cost 49 = .ok (.invokespecial 82, 3) := by decide +kernel
theorem dX11_cost_52 : decode cX11_cost 52 = .ok (.athrow, 1) := by decide +kernel
theorem dX11_cost_53 : decode cX11_cost 53 = .ok (.iload_n 3, 1) := by decide +kernel
theorem dX11_cost_54 : decode cX11_cost 54 = .ok (.iconst 1, 1) := by decide +kernel
theorem dX11_cost_55 : decode cX11_cost 55 = .ok (.if_icmp .lt 10, 3) := by decide +kernel
theorem dX11_cost_58 : decode cX11_cost 58 = .ok (.iload_n 3, 1) := by decide +kernel
theorem dX11_cost_59 : decode cX11_cost 59 = .ok (.sipush 1000, 3) := by decide +kernel
theorem dX11_cost_62 : decode cX11_cost 62 = .ok (.if_icmp .le 13, 3) := by decide +kernel
theorem dX11_cost_65 : decode cX11_cost 65 = .ok (.new 78, 3) := by decide +kernel
theorem dX11_cost_68 : decode cX11_cost 68 = .ok (.dup, 1) := by decide +kernel
theorem dX11_cost_69 : decode cX11_cost 69 = .ok (.ldc 151, 2) := by decide +kernel
theorem dX11_cost_71 : decode cX11_cost 71 = .ok (.invokespecial 82, 3) := by decide +kernel
theorem dX11_cost_74 : decode cX11_cost 74 = .ok (.athrow, 1) := by decide +kernel
theorem dX11_cost_75 : decode cX11_cost 75 = .ok (.aload 5, 2) := by decide +kernel
theorem dX11_cost_77 : decode cX11_cost 77 = .ok (.getfield 153, 3) := by decide +kernel
theorem dX11_cost_80 : decode cX11_cost 80 = .ok (.istore 6, 2) := by decide +kernel
theorem dX11_cost_82 : decode cX11_cost 82 = .ok (.iload_n 3, 1) := by decide +kernel
theorem dX11_cost_83 : decode cX11_cost 83 = .ok (.iload 6, 2) := by decide +kernel
theorem dX11_cost_85 : decode cX11_cost 85 = .ok (.if_icmp .eq 13, 3) := by decide +kernel
theorem dX11_cost_88 : decode cX11_cost 88 = .ok (.aload 5, 2) := by decide +kernel
theorem dX11_cost_90 : decode cX11_cost 90 = .ok (.iload_n 3, 1) := by decide +kernel
theorem dX11_cost_91 : decode cX11_cost 91 = .ok (.putfield 153, 3) := by decide +kernel
theorem dX11_cost_94 : decode cX11_cost 94 = .ok (.aload_n 0, 1) := by decide +kernel
theorem dX11_cost_95 : decode cX11_cost 95 = .ok (.invokevirtual 96, 3) := by decide +kernel
theorem dX11_cost_98 : decode cX11_cost 98 = .ok (.iload 6, 2) := by decide +kernel
theorem dX11_cost_100 : decode cX11_cost 100 = .ok (.ireturn, 1) := by decide +kernel
theorem dX11_link_0 : decode cX11_link 0 = .ok (.aload_n 0, 1) := by decide +kernel
theorem dX11_link_1 : decode cX11_link 1 = .ok (.iload_n 1, 1) := by decide +kernel
theorem dX11_link_2 : decode cX11_link 2 = .ok (.invokevirtual 103, 3) := by decide +kernel
theorem dX11_link_5 : decode cX11_link 5 = .ok (.astore_n 3, 1) := by decide +kernel
theorem dX11_link_6 : decode cX11_link 6 = .ok (.aload_n 3, 1) := by decide +kernel
theorem dX11_link_7 : decode cX11_link 7 = .ok (.ifnonnull 13, 3) := by decide +kernel
theorem dX11_link_10 : decode cX11_link 10 = .ok (.new 78, 3) := by decide +kernel
theorem dX11_link_13 : decode cX11_link 13 = .ok (.dup, 1) := by decide +kernel
theorem dX11_link_14 : decode cX11_link 14 = .ok (.ldc 156, 2) := by decide +kernel
theorem dX11_link_16 : decode cX11_link 16 = .ok (.invokespecial 82, 3) := by decide +kernel
theorem dX11_link_19 : decode cX11_link 19 = .ok (.athrow, 1) := by decide +kernel
theorem dX11_link_20 : decode cX11_link 20 = .ok (.aload_n 3, 1) := by decide +kernel
theorem dX11_link_21 : decode cX11_link 21 = .ok (.getfield 158, 3) := by decide +kernel
theorem dX11_link_24 : decode cX11_link 24 = .ok (.iload_n 2, 1) := by decide +kernel
theorem dX11_link_25 : decode cX11_link 25 = .ok (.if_icmp .ne 5, 3) := by decide +kernel
theorem dX11_link_28 : decode cX11_link 28 = .ok (.iconst 0, 1) := by decide +kernel
theorem dX11_link_29 : decode cX11_link 29 = .ok (.ireturn, 1) := by decide +kernel
theorem dX11_link_30 : decode cX11_link 30 = .ok (.aload_n 3, 1) := by decide +kernel
theorem dX11_link_31 : decode cX11_link 31 = .ok (.iload_n 2, 1) := by decide +kernel
theorem dX11_link_32 : decode cX11_link 32 = .ok (.putfield 158, 3) := by decide +kernel
theorem dX11_link_35 : decode cX11_link 35 = .ok (.iload_n 2, 1) := by decide +kernel
theorem dX11_link_36 : decode cX11_link 36 = .ok (.ifCond .ne 8, 3) := by decide +kernel
theorem dX11_link_39 : decode cX11_link 39 = .ok (.aload_n 0, 1) := by decide +kernel
theorem dX11_link_40 : decode cX11_link 40 = .ok (.iload_n 1, 1) := by decide +kernel
theorem dX11_link_41 : decode cX11_link 41 = .ok (.invokevirtual 161, 3) := by decide +kernel
theorem dX11_link_44 : decode cX11_link 44 = .ok (.aload_n 0, 1) := by decide +kernel
theorem dX11_link_45 : decode cX11_link 45 = .ok (.invokevirtual 96, 3) := by decide +kernel
theorem dX11_link_48 : decode cX11_link 48 = .ok (.iconst 1, 1) := by decide +kernel
theorem dX11_link_49 : decode cX11_link 49 = .ok (.ireturn, 1) := by decide +kernel
theorem dX11_fates_0 : decode cX11_fates 0 = .ok (.aload_n 0, 1) := by decide +kernel
theorem dX11_fates_1 : decode cX11_fates 1 = .ok (.iload_n 1, 1) := by decide +kernel
theorem dX11_fates_2 : decode cX11_fates 2 = .ok (.invokevirtual 103, 3) := by decide +kernel
theorem dX11_fates_5 : decode cX11_fates 5 = .ok (.astore 5, 2) := by decide +kernel
theorem dX11_fates_7 : decode cX11_fates 7 = .ok (.aload 5, 2) := by decide +kernel
theorem dX11_fates_9 : decode cX11_fates 9 = .ok (.ifnonnull 13, 3) := by decide +kernel
theorem dX11_fates_12 : decode cX11_fates 12 = .ok (.new 78, 3) := by decide +kernel
theorem dX11_fates_15 : decode cX11_fates 15 = .ok (.dup, 1) := by decide +kernel
theorem dX11_fates_16 : decode cX11_fates 16 = .ok (.ldc 156, 2) := by decide +kernel
theorem dX11_fates_18 : decode cX11_fates 18 = .ok (.invokespecial 82, 3) := by decide +kernel
theorem dX11_fates_21 : decode cX11_fates 21 = .ok (.athrow, 1) := by decide +kernel
theorem dX11_fates_22 : decode cX11_fates 22 = .ok (.iload 4, 2) := by decide +kernel
theorem dX11_fates_24 : decode cX11_fates 24 = .ok (.iconst 1, 1) := by decide +kernel
theorem dX11_fates_25 : decode cX11_fates 25 = .ok (.if_icmp .lt 10, 3) := by decide +kernel
theorem dX11_fates_28 : decode cX11_fates 28 = .ok (.iload 4, 2) := by decide +kernel
theorem dX11_fates_30 : decode cX11_fates 30 = .ok (.bipush 32, 2) := by decide +kernel
theorem dX11_fates_32 : decode cX11_fates 32 = .ok (.if_icmp .le 13, 3) := by decide +kernel
theorem dX11_fates_35 : decode cX11_fates 35 = .ok (.new 78, 3) := by decide +kernel
theorem dX11_fates_38 : decode cX11_fates 38 = .ok (.dup, 1) := by decide +kernel
theorem dX11_fates_39 : decode cX11_fates 39 = .ok (.ldc 164, 2) := by decide +kernel
theorem dX11_fates_41 : decode cX11_fates 41 = .ok (.invokespecial 82, 3) := by decide +kernel
theorem dX11_fates_44 : decode cX11_fates 44 = .ok (.athrow, 1) := by decide +kernel
theorem dX11_fates_45 : decode cX11_fates 45 = .ok (.aload 5, 2) := by decide +kernel
theorem dX11_fates_47 : decode cX11_fates 47 = .ok (.getfield 166, 3) := by decide +kernel
theorem dX11_fates_50 : decode cX11_fates 50 = .ok (.iload 4, 2) := by decide +kernel
theorem dX11_fates_52 : decode cX11_fates 52 = .ok (.iadd, 1) := by decide +kernel
theorem dX11_fates_53 : decode cX11_fates 53 = .ok (.bipush 64, 2) := by decide +kernel
theorem dX11_fates_55 : decode cX11_fates 55 = .ok (.if_icmp .le 13, 3) := by decide +kernel
theorem dX11_fates_58 : decode cX11_fates 58 = .ok (.new 65, 3) := by decide +kernel
theorem dX11_fates_61 : decode cX11_fates 61 = .ok (.dup, 1) := by decide +kernel
theorem dX11_fates_62 : decode cX11_fates 62 = .ok (.ldc 169, 2) := by decide +kernel
theorem dX11_fates_64 : decode cX11_fates 64 = .ok (.invokespecial 69, 3) := by decide +kernel
theorem dX11_fates_67 : decode cX11_fates 67 = .ok (.athrow, 1) := by decide +kernel
theorem dX11_fates_68 : decode cX11_fates 68 = .ok (.iconst 0, 1) := by decide +kernel
theorem dX11_fates_69 : decode cX11_fates 69 = .ok (.istore 6, 2) := by decide +kernel
theorem dX11_fates_71 : decode cX11_fates 71 = .ok (.iload 6, 2) := by decide +kernel
theorem dX11_fates_73 : decode cX11_fates 73 = .ok (.iload 4, 2) := by decide +kernel
theorem dX11_fates_75 : decode cX11_fates 75 = .ok (.if_icmp .ge 23, 3) := by decide +kernel
theorem dX11_fates_78 : decode cX11_fates 78 = .ok (.aload 5, 2) := by decide +kernel
theorem dX11_fates_80 : decode cX11_fates 80 = .ok (.lload_n 2, 1) := by decide +kernel
theorem dX11_fates_81 : decode cX11_fates 81 = .ok (.iconst 2, 1) := by decide +kernel
theorem dX11_fates_82 : decode cX11_fates 82 = .ok (.iload 6, 2) := by decide +kernel
theorem dX11_fates_84 : decode cX11_fates 84 = .ok (.imul, 1) := by decide +kernel
theorem dX11_fates_85 : decode cX11_fates 85 = .ok (.lushr, 1) := by decide +kernel
theorem dX11_fates_86 : decode cX11_fates 86 = .ok (.l2i, 1) := by decide +kernel
theorem dX11_fates_87 : decode cX11_fates 87 = .ok (.iconst 3, 1) := by decide +kernel
theorem dX11_fates_88 : decode cX11_fates 88 = .ok (.iand, 1) := by decide +kernel
theorem dX11_fates_89 : decode cX11_fates 89 = .ok (.invokevirtual 171, 3) := by decide +kernel
theorem dX11_fates_92 : decode cX11_fates 92 = .ok (.iinc 6 1, 3) := by decide +kernel
theorem dX11_fates_95 : decode cX11_fates 95 = .ok (.goto (-24), 3) := by decide +kernel
theorem dX11_fates_98 : decode cX11_fates 98 = .ok (.aload 5, 2) := by decide +kernel
theorem dX11_fates_100 : decode cX11_fates 100 = .ok (.getfield 166, 3) := by decide +kernel
theorem dX11_fates_103 : decode cX11_fates 103 = .ok (.ireturn, 1) := by decide +kernel
theorem dX11_run_0 : decode cX11_run 0 = .ok (.iload_n 1, 1) := by decide +kernel
theorem dX11_run_1 : decode cX11_run 1 = .ok (.iconst 1, 1) := by decide +kernel
theorem dX11_run_2 : decode cX11_run 2 = .ok (.if_icmp .lt 10, 3) := by decide +kernel
theorem dX11_run_5 : decode cX11_run 5 = .ok (.iload_n 1, 1) := by decide +kernel
theorem dX11_run_6 : decode cX11_run 6 = .ok (.sipush 1000, 3) := by decide +kernel
theorem dX11_run_9 : decode cX11_run 9 = .ok (.if_icmp .le 13, 3) := by decide +kernel
theorem dX11_run_12 : decode cX11_run 12 = .ok (.new 78, 3) := by decide +kernel
theorem dX11_run_15 : decode cX11_run 15 = .ok (.dup, 1) := by decide +kernel
theorem dX11_run_16 : decode cX11_run 16 = .ok (.ldc 174, 2) := by decide +kernel
theorem dX11_run_18 : decode cX11_run 18 = .ok (.invokespecial 82, 3) := by decide +kernel
theorem dX11_run_21 : decode cX11_run 21 = .ok (.athrow, 1) := by decide +kernel
theorem dX11_run_22 : decode cX11_run 22 = .ok (.aload_n 0, 1) := by decide +kernel
theorem dX11_run_23 : decode cX11_run 23 = .ok (.getfield 176, 3) := by decide +kernel
theorem dX11_run_26 : decode cX11_run 26 = .ok (.iload_n 1, 1) := by decide +kernel
theorem dX11_run_27 : decode cX11_run 27 = .ok (.iadd, 1) := by decide +kernel
theorem dX11_run_28 : decode cX11_run 28 = .ok (.ldc 179, 2) := by decide +kernel
theorem dX11_run_30 : decode cX11_run 30 = .ok (.if_icmp .le 13, 3) := by decide +kernel
theorem dX11_run_33 : decode cX11_run 33 = .ok (.new 65, 3) := by decide +kernel
theorem dX11_run_36 : decode cX11_run 36 = .ok (.dup, 1) := by decide +kernel
theorem dX11_run_37 : decode cX11_run 37 = .ok (.ldc 180, 2) := by decide +kernel
theorem dX11_run_39 : decode cX11_run 39 = .ok (.invokespecial 69, 3) := by decide +kernel
theorem dX11_run_42 : decode cX11_run 42 = .ok (.athrow, 1) := by decide +kernel
theorem dX11_run_43 : decode cX11_run 43 = .ok (.iconst 0, 1) := by decide +kernel
theorem dX11_run_44 : decode cX11_run 44 = .ok (.istore_n 2, 1) := by decide +kernel
theorem dX11_run_45 : decode cX11_run 45 = .ok (.iload_n 2, 1) := by decide +kernel
theorem dX11_run_46 : decode cX11_run 46 = .ok (.iload_n 1, 1) := by decide +kernel
theorem dX11_run_47 : decode cX11_run 47 = .ok (.if_icmp .ge 82, 3) := by decide +kernel
theorem dX11_run_50 : decode cX11_run 50 = .ok (.aload_n 0, 1) := by decide +kernel
theorem dX11_run_51 : decode cX11_run 51 = .ok (.dup, 1) := by decide +kernel
theorem dX11_run_52 : decode cX11_run 52 = .ok (.getfield 176, 3) := by decide +kernel
theorem dX11_run_55 : decode cX11_run 55 = .ok (.iconst 1, 1) := by decide +kernel
theorem dX11_run_56 : decode cX11_run 56 = .ok (.iadd, 1) := by decide +kernel
theorem dX11_run_57 : decode cX11_run 57 = .ok (.putfield 176, 3) := by decide +kernel
theorem dX11_run_60 : decode cX11_run 60 = .ok (.aload_n 0, 1) := by decide +kernel
theorem dX11_run_61 : decode cX11_run 61 = .ok (.invokevirtual 182, 3) := by decide +kernel
theorem dX11_run_64 : decode cX11_run 64 = .ok (.iconst 0, 1) := by decide +kernel
theorem dX11_run_65 : decode cX11_run 65 = .ok (.istore_n 3, 1) := by decide +kernel
theorem dX11_run_66 : decode cX11_run 66 = .ok (.iload_n 3, 1) := by decide +kernel
theorem dX11_run_67 : decode cX11_run 67 = .ok (.aload_n 0, 1) := by decide +kernel
theorem dX11_run_68 : decode cX11_run 68 = .ok (.getfield 61, 3) := by decide +kernel
theorem dX11_run_71 : decode cX11_run 71 = .ok (.if_icmp .ge 52, 3) := by decide +kernel
theorem dX11_run_74 : decode cX11_run 74 = .ok (.aload_n 0, 1) := by decide +kernel
theorem dX11_run_75 : decode cX11_run 75 = .ok (.getfield 17, 3) := by decide +kernel
theorem dX11_run_78 : decode cX11_run 78 = .ok (.iload_n 3, 1) := by decide +kernel
theorem dX11_run_79 : decode cX11_run 79 = .ok (.aaload, 1) := by decide +kernel
theorem dX11_run_80 : decode cX11_run 80 = .ok (.astore 4, 2) := by decide +kernel
theorem dX11_run_82 : decode cX11_run 82 = .ok (.aload_n 0, 1) := by decide +kernel
theorem dX11_run_83 : decode cX11_run 83 = .ok (.aload 4, 2) := by decide +kernel
theorem dX11_run_85 : decode cX11_run 85 = .ok (.invokevirtual 185, 3) := by decide +kernel
theorem dX11_run_88 : decode cX11_run 88 = .ok (.aload_n 0, 1) := by decide +kernel
theorem dX11_run_89 : decode cX11_run 89 = .ok (.aload 4, 2) := by decide +kernel
theorem dX11_run_91 : decode cX11_run 91 = .ok (.invokevirtual 189, 3) := by decide +kernel
theorem dX11_run_94 : decode cX11_run 94 = .ok (.aload 4, 2) := by decide +kernel
theorem dX11_run_96 : decode cX11_run 96 = .ok (.getfield 109, 3) := by decide +kernel
theorem dX11_run_99 : decode cX11_run 99 = .ok (.ifCond .eq 12, 3) := by decide +kernel
theorem dX11_run_102 : decode cX11_run 102 = .ok (.aload_n 0, 1) := by decide +kernel
theorem dX11_run_103 : decode cX11_run 103 = .ok (.aload 4, 2) := by decide +kernel
theorem dX11_run_105 : decode cX11_run 105 = .ok (.invokevirtual 192, 3) := by decide +kernel
theorem dX11_run_108 : decode cX11_run 108 = .ok (.goto 9, 3) := by decide +kernel
theorem dX11_run_111 : decode cX11_run 111 = .ok (.aload_n 0, 1) := by decide +kernel
theorem dX11_run_112 : decode cX11_run 112 = .ok (.aload 4, 2) := by decide +kernel
theorem dX11_run_114 : decode cX11_run 114 = .ok (.invokevirtual 195, 3) := by decide +kernel
theorem dX11_run_117 : decode cX11_run 117 = .ok (.iinc 3 1, 3) := by decide +kernel
theorem dX11_run_120 : decode cX11_run 120 = .ok (.goto (-54), 3) := by decide +kernel
theorem dX11_run_123 : decode cX11_run 123 = .ok (.iinc 2 1, 3) := by decide +kernel
theorem dX11_run_126 : decode cX11_run 126 = .ok (.goto (-81), 3) := by decide +kernel
theorem dX11_run_129 : decode cX11_run 129 = .ok (.aload_n 0, 1) := by decide +kernel
theorem dX11_run_130 : decode cX11_run 130 = .ok (.getfield 176, 3) := by decide +kernel
theorem dX11_run_133 : decode cX11_run 133 = .ok (.ireturn, 1) := by decide +kernel
theorem dX11_listen_0 : decode cX11_listen 0 = .ok (.aload_n 0, 1) := by decide +kernel
theorem dX11_listen_1 : decode cX11_listen 1 = .ok (.iload_n 1, 1) := by decide +kernel
theorem dX11_listen_2 : decode cX11_listen 2 = .ok (.invokevirtual 198, 3) := by decide +kernel
theorem dX11_listen_5 : decode cX11_listen 5 = .ok (.astore 4, 2) := by decide +kernel
theorem dX11_listen_7 : decode cX11_listen 7 = .ok (.aload 4, 2) := by decide +kernel
theorem dX11_listen_9 : decode cX11_listen 9 = .ok (.ifnonnull 13, 3) := by decide +kernel
theorem dX11_listen_12 : decode cX11_listen 12 = .ok (.new 78, 3) := by decide +kernel
theorem dX11_listen_15 : decode cX11_listen 15 = .ok (.dup, 1) := by decide +kernel
theorem dX11_listen_16 : decode cX11_listen 16 = .ok (.ldc 201, 2) := by decide +kernel
theorem dX11_listen_18 : decode cX11_listen 18 = .ok (.invokespecial 82, 3) := by decide +kernel
theorem dX11_listen_21 : decode cX11_listen 21 = .ok (.athrow, 1) := by decide +kernel
theorem dX11_listen_22 : decode cX11_listen 22 = .ok (.iload_n 2, 1) := by decide +kernel
theorem dX11_listen_23 : decode cX11_listen 23 = .ok (.iconst 1, 1) := by decide +kernel
theorem dX11_listen_24 : decode cX11_listen 24 = .ok (.if_icmp .lt 9, 3) := by decide +kernel
theorem dX11_listen_27 : decode cX11_listen 27 = .ok (.iload_n 2, 1) := by decide +kernel
theorem dX11_listen_28 : decode cX11_listen 28 = .ok (.ldc 203, 2) := by decide +kernel
theorem dX11_listen_30 : decode cX11_listen 30 = .ok (.if_icmp .lt 13, 3) := by decide +kernel
theorem dX11_listen_33 : decode cX11_listen 33 = .ok (.new 78, 3) := by decide +kernel
theorem dX11_listen_36 : decode cX11_listen 36 = .ok (.dup, 1) := by decide +kernel
theorem dX11_listen_37 : decode cX11_listen 37 = .ok (.ldc 204, 2) := by decide +kernel
theorem dX11_listen_39 : decode cX11_listen 39 = .ok (.invokespecial 82, 3) := by decide +kernel
theorem dX11_listen_42 : decode cX11_listen 42 = .ok (.athrow, 1) := by decide +kernel
theorem dX11_listen_43 : decode cX11_listen 43 = .ok (.iload_n 3, 1) := by decide +kernel
theorem dX11_listen_44 : decode cX11_listen 44 = .ok (.iconst 1, 1) := by decide +kernel
theorem dX11_listen_45 : decode cX11_listen 45 = .ok (.if_icmp .lt 8, 3) := by decide +kernel
theorem dX11_listen_48 : decode cX11_listen 48 = .ok (.iload_n 3, 1) := by decide +kernel
theorem dX11_listen_49 : decode cX11_listen 49 = .ok (.iconst 5, 1) := by decide +kernel
theorem dX11_listen_50 : decode cX11_listen 50 = .ok (.if_icmp .le 13, 3) := by decide +kernel
theorem dX11_listen_53 : decode cX11_listen 53 = .ok (.new 78, 3) := by decide +kernel
theorem dX11_listen_56 : decode cX11_listen 56 = .ok (.dup, 1) := by decide +kernel
theorem dX11_listen_57 : decode cX11_listen 57 = .ok (.ldc 206, 2) := by decide +kernel
theorem dX11_listen_59 : decode cX11_listen 59 = .ok (.invokespecial 82, 3) := by decide +kernel
theorem dX11_listen_62 : decode cX11_listen 62 = .ok (.athrow, 1) := by decide +kernel
theorem dX11_listen_63 : decode cX11_listen 63 = .ok (.aload 4, 2) := by decide +kernel
theorem dX11_listen_65 : decode cX11_listen 65 = .ok (.invokevirtual 208, 3) := by decide +kernel
theorem dX11_listen_68 : decode cX11_listen 68 = .ok (.istore 5, 2) := by decide +kernel
theorem dX11_listen_70 : decode cX11_listen 70 = .ok (.iload 5, 2) := by decide +kernel
theorem dX11_listen_72 : decode cX11_listen 72 = .ok (.ifCond .ge 13, 3) := by decide +kernel
theorem dX11_listen_75 : decode cX11_listen 75 = .ok (.new 65, 3) := by decide +kernel
theorem dX11_listen_78 : decode cX11_listen 78 = .ok (.dup, 1) := by decide +kernel
theorem dX11_listen_79 : decode cX11_listen 79 = .ok (.ldc 212, 2) := by decide +kernel
theorem dX11_listen_81 : decode cX11_listen 81 = .ok (.invokespecial 69, 3) := by decide +kernel
theorem dX11_listen_84 : decode cX11_listen 84 = .ok (.athrow, 1) := by decide +kernel
theorem dX11_listen_85 : decode cX11_listen 85 = .ok (.aload 4, 2) := by decide +kernel
theorem dX11_listen_87 : decode cX11_listen 87 = .ok (.iload_n 2, 1) := by decide +kernel
theorem dX11_listen_88 : decode cX11_listen 88 = .ok (.invokevirtual 214, 3) := by decide +kernel
theorem dX11_listen_91 : decode cX11_listen 91 = .ok (.ifCond .lt 13, 3) := by decide +kernel
theorem dX11_listen_94 : decode cX11_listen 94 = .ok (.new 65, 3) := by decide +kernel
theorem dX11_listen_97 : decode cX11_listen 97 = .ok (.dup, 1) := by decide +kernel
theorem dX11_listen_98 : decode cX11_listen 98 = .ok (.ldc 218, 2) := by decide +kernel
theorem dX11_listen_100 : decode cX11_listen 100 = .ok (.invokespecial 69, 3) := by decide +kernel
theorem dX11_listen_103 : decode cX11_listen 103 = .ok (.athrow, 1) := by decide +kernel
theorem dX11_listen_104 : decode cX11_listen 104 = .ok (.aload 4, 2) := by decide +kernel
theorem dX11_listen_106 : decode cX11_listen 106 = .ok (.getfield 220, 3) := by decide +kernel
theorem dX11_listen_109 : decode cX11_listen 109 = .ok (.iload 5, 2) := by decide +kernel
theorem dX11_listen_111 : decode cX11_listen 111 = .ok (.aaload, 1) := by decide +kernel
theorem dX11_listen_112 : decode cX11_listen 112 = .ok (.iload_n 2, 1) := by decide +kernel
theorem dX11_listen_113 : decode cX11_listen 113 = .ok (.iload_n 3, 1) := by decide +kernel
theorem dX11_listen_114 : decode cX11_listen 114 = .ok (.invokevirtual 224, 3) := by decide +kernel
theorem dX11_listen_117 : decode cX11_listen 117 = .ok (.aload_n 0, 1) := by decide +kernel
theorem dX11_listen_118 : decode cX11_listen 118 = .ok (.invokevirtual 75, 3) := by decide +kernel
theorem dX11_listen_121 : decode cX11_listen 121 = .ok (.iload 5, 2) := by decide +kernel
theorem dX11_listen_123 : decode cX11_listen 123 = .ok (.ireturn, 1) := by decide +kernel
theorem dX11_open_0 : decode cX11_open 0 = .ok (.aload_n 0, 1) := by decide +kernel
theorem dX11_open_1 : decode cX11_open 1 = .ok (.iload_n 1, 1) := by decide +kernel
theorem dX11_open_2 : decode cX11_open 2 = .ok (.invokevirtual 198, 3) := by decide +kernel
theorem dX11_open_5 : decode cX11_open 5 = .ok (.astore 4, 2) := by decide +kernel
theorem dX11_open_7 : decode cX11_open 7 = .ok (.aload 4, 2) := by decide +kernel
theorem dX11_open_9 : decode cX11_open 9 = .ok (.ifnonnull 13, 3) := by decide +kernel
theorem dX11_open_12 : decode cX11_open 12 = .ok (.new 78, 3) := by decide +kernel
theorem dX11_open_15 : decode cX11_open 15 = .ok (.dup, 1) := by decide +kernel
theorem dX11_open_16 : decode cX11_open 16 = .ok (.ldc 201, 2) := by decide +kernel
theorem dX11_open_18 : decode cX11_open 18 = .ok (.invokespecial 82, 3) := by decide +kernel
theorem dX11_open_21 : decode cX11_open 21 = .ok (.athrow, 1) := by decide +kernel
theorem dX11_open_22 : decode cX11_open 22 = .ok (.iload_n 3, 1) := by decide +kernel
theorem dX11_open_23 : decode cX11_open 23 = .ok (.iconst 1, 1) := by decide +kernel
theorem dX11_open_24 : decode cX11_open 24 = .ok (.if_icmp .lt 9, 3) := by decide +kernel
theorem dX11_open_27 : decode cX11_open 27 = .ok (.iload_n 3, 1) := by decide +kernel
theorem dX11_open_28 : decode cX11_open 28 = .ok (.ldc 230, 2) := by decide +kernel
theorem dX11_open_30 : decode cX11_open 30 = .ok (.if_icmp .le 13, 3) := by decide +kernel
theorem dX11_open_33 : decode cX11_open 33 = .ok (.new 78, 3) := by decide +kernel
theorem dX11_open_36 : decode cX11_open 36 = .ok (.dup, 1) := by decide +kernel
theorem dX11_open_37 : decode cX11_open 37 = .ok (.ldc 231, 2) := by decide +kernel
theorem dX11_open_39 : decode cX11_open 39 = .ok (.invokespecial 82, 3) := by decide +kernel
theorem dX11_open_42 : decode cX11_open 42 = .ok (.athrow, 1) := by decide +kernel
theorem dX11_open_43 : decode cX11_open 43 = .ok (.aload 4, 2) := by decide +kernel
theorem dX11_open_45 : decode cX11_open 45 = .ok (.iload_n 2, 1) := by decide +kernel
theorem dX11_open_46 : decode cX11_open 46 = .ok (.invokevirtual 233, 3) := by decide +kernel
theorem dX11_open_49 : decode cX11_open 49 = .ok (.ifCond .eq 13, 3) := by decide +kernel
theorem dX11_open_52 : decode cX11_open 52 = .ok (.new 78, 3) := by decide +kernel
theorem dX11_open_55 : decode cX11_open 55 = .ok (.dup, 1) := by decide +kernel
theorem dX11_open_56 : decode cX11_open 56 = .ok (.ldc 237, 2) := by decide +kernel
theorem dX11_open_58 : decode cX11_open 58 = .ok (.invokespecial 82, 3) := by decide +kernel
theorem dX11_open_61 : decode cX11_open 61 = .ok (.athrow, 1) := by decide +kernel
theorem dX11_open_62 : decode cX11_open 62 = .ok (.aload 4, 2) := by decide +kernel
theorem dX11_open_64 : decode cX11_open 64 = .ok (.invokevirtual 208, 3) := by decide +kernel
theorem dX11_open_67 : decode cX11_open 67 = .ok (.istore 5, 2) := by decide +kernel
theorem dX11_open_69 : decode cX11_open 69 = .ok (.iload 5, 2) := by decide +kernel
theorem dX11_open_71 : decode cX11_open 71 = .ok (.ifCond .ge 13, 3) := by decide +kernel
theorem dX11_open_74 : decode cX11_open 74 = .ok (.new 65, 3) := by decide +kernel
theorem dX11_open_77 : decode cX11_open 77 = .ok (.dup, 1) := by decide +kernel
theorem dX11_open_78 : decode cX11_open 78 = .ok (.ldc 212, 2) := by decide +kernel
theorem dX11_open_80 : decode cX11_open 80 = .ok (.invokespecial 69, 3) := by decide +kernel
theorem dX11_open_83 : decode cX11_open 83 = .ok (.athrow, 1) := by decide +kernel
theorem dX11_open_84 : decode cX11_open 84 = .ok (.aload 4, 2) := by decide +kernel
theorem dX11_open_86 : decode cX11_open 86 = .ok (.getfield 134, 3) := by decide +kernel
theorem dX11_open_89 : decode cX11_open 89 = .ok (.iconst 0, 1) := by decide +kernel
theorem dX11_open_90 : decode cX11_open 90 = .ok (.aaload, 1) := by decide +kernel
theorem dX11_open_91 : decode cX11_open 91 = .ok (.astore 6, 2) := by decide +kernel
theorem dX11_open_93 : decode cX11_open 93 = .ok (.aload 6, 2) := by decide +kernel
theorem dX11_open_95 : decode cX11_open 95 = .ok (.ifnonnull 13, 3) := by decide +kernel
theorem dX11_open_98 : decode cX11_open 98 = .ok (.new 65, 3) := by decide +kernel
theorem dX11_open_101 : decode cX11_open 101 = .ok (.dup, 1) := by decide +kernel
theorem dX11_open_102 : decode cX11_open 102 = .ok (.ldc 239, 2) := by decide +kernel
theorem dX11_open_104 : decode cX11_open 104 = .ok (.invokespecial 69, 3) := by decide +kernel
theorem dX11_open_107 : decode cX11_open 107 = .ok (.athrow, 1) := by decide +kernel
theorem dX11_open_108 : decode cX11_open 108 = .ok (.ldc 203, 2) := by decide +kernel
theorem dX11_open_110 : decode cX11_open 110 = .ok (.aload 4, 2) := by decide +kernel
theorem dX11_open_112 : decode cX11_open 112 = .ok (.getfield 241, 3) := by decide +kernel
theorem dX11_open_115 : decode cX11_open 115 = .ok (.iadd, 1) := by decide +kernel
theorem dX11_open_116 : decode cX11_open 116 = .ok (.ldc 230, 2) := by decide +kernel
theorem dX11_open_118 : decode cX11_open 118 = .ok (.if_icmp .le 13, 3) := by decide +kernel
theorem dX11_open_121 : decode cX11_open 121 = .ok (.new 65, 3) := by decide +kernel
theorem dX11_open_124 : decode cX11_open 124 = .ok (.dup, 1) := by decide +kernel
theorem dX11_open_125 : decode cX11_open 125 = .ok (.ldc 244, 2) := by decide +kernel
theorem dX11_open_127 : decode cX11_open 127 = .ok (.invokespecial 69, 3) := by decide +kernel
theorem dX11_open_130 : decode cX11_open 130 = .ok (.athrow, 1) := by decide +kernel
theorem dX11_open_131 : decode cX11_open 131 = .ok (.aload 4, 2) := by decide +kernel
theorem dX11_open_133 : decode cX11_open 133 = .ok (.getfield 220, 3) := by decide +kernel
theorem dX11_open_136 : decode cX11_open 136 = .ok (.iload 5, 2) := by decide +kernel
theorem dX11_open_138 : decode cX11_open 138 = .ok (.aaload, 1) := by decide +kernel
theorem dX11_open_139 : decode cX11_open 139 = .ok (.astore 7, 2) := by decide +kernel
theorem dX11_open_141 : decode cX11_open 141 = .ok (.aload 7, 2) := by decide +kernel
theorem dX11_open_143 : decode cX11_open 143 = .ok (.ldc 203, 2) := by decide +kernel
theorem dX11_open_145 : decode cX11_open 145 = .ok (.aload 4, 2) := by decide +kernel
theorem dX11_open_147 : decode cX11_open 147 = .ok (.getfield 241, 3) := by decide +kernel
theorem dX11_open_150 : decode cX11_open 150 = .ok (.iadd, 1) := by decide +kernel
theorem dX11_open_151 : decode cX11_open 151 = .ok (.iload_n 2, 1) := by decide +kernel
theorem dX11_open_152 : decode cX11_open 152 = .ok (.iload_n 3, 1) := by decide +kernel
theorem dX11_open_153 : decode cX11_open 153 = .ok (.invokevirtual 246, 3) := by decide +kernel
theorem dX11_open_156 : decode cX11_open 156 = .ok (.aload 4, 2) := by decide +kernel
theorem dX11_open_158 : decode cX11_open 158 = .ok (.dup, 1) := by decide +kernel
theorem dX11_open_159 : decode cX11_open 159 = .ok (.getfield 241, 3) := by decide +kernel
theorem dX11_open_162 : decode cX11_open 162 = .ok (.iconst 1, 1) := by decide +kernel
theorem dX11_open_163 : decode cX11_open 163 = .ok (.iadd, 1) := by decide +kernel
theorem dX11_open_164 : decode cX11_open 164 = .ok (.putfield 241, 3) := by decide +kernel
theorem dX11_open_167 : decode cX11_open 167 = .ok (.aload_n 0, 1) := by decide +kernel
theorem dX11_open_168 : decode cX11_open 168 = .ok (.dup, 1) := by decide +kernel
theorem dX11_open_169 : decode cX11_open 169 = .ok (.getfield 250, 3) := by decide +kernel
theorem dX11_open_172 : decode cX11_open 172 = .ok (.iconst 1, 1) := by decide +kernel
theorem dX11_open_173 : decode cX11_open 173 = .ok (.iadd, 1) := by decide +kernel
theorem dX11_open_174 : decode cX11_open 174 = .ok (.putfield 250, 3) := by decide +kernel
theorem dX11_open_177 : decode cX11_open 177 = .ok (.aload 7, 2) := by decide +kernel
theorem dX11_open_179 : decode cX11_open 179 = .ok (.getfield 253, 3) := by decide +kernel
theorem dX11_open_182 : decode cX11_open 182 = .ok (.aload_n 0, 1) := by decide +kernel
theorem dX11_open_183 : decode cX11_open 183 = .ok (.aload 4, 2) := by decide +kernel
theorem dX11_open_185 : decode cX11_open 185 = .ok (.invokevirtual 257, 3) := by decide +kernel
theorem dX11_open_188 : decode cX11_open 188 = .ok (.aload 6, 2) := by decide +kernel
theorem dX11_open_190 : decode cX11_open 190 = .ok (.getfield 261, 3) := by decide +kernel
theorem dX11_open_193 : decode cX11_open 193 = .ok (.getfield 90, 3) := by decide +kernel
theorem dX11_open_196 : decode cX11_open 196 = .ok (.bipush 40, 2) := by decide +kernel
theorem dX11_open_198 : decode cX11_open 198 = .ok (.isub, 1) := by decide +kernel
theorem dX11_open_199 : decode cX11_open 199 = .ok (.aload_n 0, 1) := by decide +kernel
theorem dX11_open_200 : decode cX11_open 200 = .ok (.getfield 250, 3) := by decide +kernel
theorem dX11_open_203 : decode cX11_open 203 = .ok (.invokevirtual 265, 3) := by decide +kernel
theorem dX11_open_206 : decode cX11_open 206 = .ok (.aload 7, 2) := by decide +kernel
theorem dX11_open_208 : decode cX11_open 208 = .ok (.getfield 253, 3) := by decide +kernel
theorem dX11_open_211 : decode cX11_open 211 = .ok (.invokevirtual 270, 3) := by decide +kernel
theorem dX11_open_214 : decode cX11_open 214 = .ok (.aload_n 0, 1) := by decide +kernel
theorem dX11_open_215 : decode cX11_open 215 = .ok (.invokevirtual 75, 3) := by decide +kernel
theorem dX11_open_218 : decode cX11_open 218 = .ok (.iload 5, 2) := by decide +kernel
theorem dX11_open_220 : decode cX11_open 220 = .ok (.ireturn, 1) := by decide +kernel
theorem dX11_accept_0 : decode cX11_accept 0 = .ok (.aload_n 0, 1) := by decide +kernel
theorem dX11_accept_1 : decode cX11_accept 1 = .ok (.iload_n 1, 1) := by decide +kernel
theorem dX11_accept_2 : decode cX11_accept 2 = .ok (.invokevirtual 198, 3) := by decide +kernel
theorem dX11_accept_5 : decode cX11_accept 5 = .ok (.astore_n 3, 1) := by decide +kernel
theorem dX11_accept_6 : decode cX11_accept 6 = .ok (.aload_n 0, 1) := by decide +kernel
theorem dX11_accept_7 : decode cX11_accept 7 = .ok (.iload_n 1, 1) := by decide +kernel
theorem dX11_accept_8 : decode cX11_accept 8 = .ok (.iload_n 2, 1) := by decide +kernel
theorem dX11_accept_9 : decode cX11_accept 9 = .ok (.invokevirtual 273, 3) := by decide +kernel
theorem dX11_accept_12 : decode cX11_accept 12 = .ok (.astore 4, 2) := by decide +kernel
theorem dX11_accept_14 : decode cX11_accept 14 = .ok (.aload_n 3, 1) := by decide +kernel
theorem dX11_accept_15 : decode cX11_accept 15 = .ok (.ifnull 8, 3) := by decide +kernel
theorem dX11_accept_18 : decode cX11_accept 18 = .ok (.aload 4, 2) := by decide +kernel
theorem dX11_accept_20 : decode cX11_accept 20 = .ok (.ifnonnull 14, 3) := by decide +kernel
theorem dX11_accept_23 : decode cX11_accept 23 = .ok (.new 78, 3) := by decide +kernel
theorem dX11_accept_26 : decode cX11_accept 26 = .ok (.dup, 1) := by decide +kernel
theorem dX11_accept_27 : decode cX11_accept 27 = .ok (.ldc_w 277, 3) := by decide +kernel
theorem dX11_accept_30 : decode cX11_accept 30 = .ok (.invokespecial 82, 3) := by decide +kernel
theorem dX11_accept_33 : decode cX11_accept 33 = .ok (.athrow, 1) := by decide +kernel
theorem dX11_accept_34 : decode cX11_accept 34 = .ok (.aload 4, 2) := by decide +kernel
theorem dX11_accept_36 : decode cX11_accept 36 = .ok (.getfield 279, 3) := by decide +kernel
theorem dX11_accept_39 : decode cX11_accept 39 = .ok (.iconst 1, 1) := by decide +kernel
theorem dX11_accept_40 : decode cX11_accept 40 = .ok (.if_icmp .eq 14, 3) := by decide +kernel
theorem dX11_accept_43 : decode cX11_accept 43 = .ok (.new 65, 3) := by decide +kernel
theorem dX11_accept_46 : decode cX11_accept 46 = .ok (.dup, 1) := by decide +kernel
theorem dX11_accept_47 : decode cX11_accept 47 = .ok (.ldc_w 282, 3) := by decide +kernel
theorem dX11_accept_50 : decode cX11_accept 50 = .ok (.invokespecial 69, 3) := by decide +kernel
theorem dX11_accept_53 : decode cX11_accept 53 = .ok (.athrow, 1) := by decide +kernel
theorem dX11_accept_54 : decode cX11_accept 54 = .ok (.iconst 0, 1) := by decide +kernel
theorem dX11_accept_55 : decode cX11_accept 55 = .ok (.istore 5, 2) := by decide +kernel
theorem dX11_accept_57 : decode cX11_accept 57 = .ok (.iload 5, 2) := by decide +kernel
theorem dX11_accept_59 : decode cX11_accept 59 = .ok (.bipush 6, 2) := by decide +kernel
theorem dX11_accept_61 : decode cX11_accept 61 = .ok (.if_icmp .ge 84, 3) := by decide +kernel
theorem dX11_accept_64 : decode cX11_accept 64 = .ok (.aload_n 3, 1) := by decide +kernel
theorem dX11_accept_65 : decode cX11_accept 65 = .ok (.getfield 220, 3) := by decide +kernel
theorem dX11_accept_68 : decode cX11_accept 68 = .ok (.iload 5, 2) := by decide +kernel
theorem dX11_accept_70 : decode cX11_accept 70 = .ok (.aaload, 1) := by decide +kernel
theorem dX11_accept_71 : decode cX11_accept 71 = .ok (.astore 6, 2) := by decide +kernel
theorem dX11_accept_73 : decode cX11_accept 73 = .ok (.aload 6, 2) := by decide +kernel
theorem dX11_accept_75 : decode cX11_accept 75 = .ok (.getfield 279, 3) := by decide +kernel
theorem dX11_accept_78 : decode cX11_accept 78 = .ok (.iconst 2, 1) := by decide +kernel
theorem dX11_accept_79 : decode cX11_accept 79 = .ok (.if_icmp .ne 60, 3) := by decide +kernel
theorem dX11_accept_82 : decode cX11_accept 82 = .ok (.aload 6, 2) := by decide +kernel
theorem dX11_accept_84 : decode cX11_accept 84 = .ok (.getfield 284, 3) := by decide +kernel
theorem dX11_accept_87 : decode cX11_accept 87 = .ok (.iload_n 2, 1) := by decide +kernel
theorem dX11_accept_88 : decode cX11_accept 88 = .ok (.if_icmp .ne 51, 3) := by decide +kernel
theorem dX11_accept_91 : decode cX11_accept 91 = .ok (.aload 6, 2) := by decide +kernel
theorem dX11_accept_93 : decode cX11_accept 93 = .ok (.getfield 287, 3) := by decide +kernel
theorem dX11_accept_96 : decode cX11_accept 96 = .ok (.ifCond .eq 6, 3) := by decide +kernel
theorem dX11_accept_99 : decode cX11_accept 99 = .ok (.goto 40, 3) := by decide +kernel
theorem dX11_accept_102 : decode cX11_accept 102 = .ok (.aload 6, 2) := by decide +kernel
theorem dX11_accept_104 : decode cX11_accept 104 = .ok (.getfield 253, 3) := by decide +kernel
theorem dX11_accept_107 : decode cX11_accept 107 = .ok (.getfield 290, 3) := by decide +kernel
theorem dX11_accept_110 : decode cX11_accept 110 = .ok (.iconst 4, 1) := by decide +kernel
theorem dX11_accept_111 : decode cX11_accept 111 = .ok (.if_icmp .lt 28, 3) := by decide +kernel
theorem dX11_accept_114 : decode cX11_accept 114 = .ok (.aload 6, 2) := by decide +kernel
theorem dX11_accept_116 : decode cX11_accept 116 = .ok (.getfield 253, 3) := by decide +kernel
theorem dX11_accept_119 : decode cX11_accept 119 = .ok (.getfield 290, 3) := by decide +kernel
theorem dX11_accept_122 : decode cX11_accept 122 = .ok (.bipush 10, 2) := by decide +kernel
theorem dX11_accept_124 : decode cX11_accept 124 = .ok (.if_icmp .le 6, 3) := by decide +kernel
theorem dX11_accept_127 : decode cX11_accept 127 = .ok (.goto 12, 3) := by decide +kernel
theorem dX11_accept_130 : decode cX11_accept 130 = .ok (.aload 6, 2) := by decide +kernel
theorem dX11_accept_132 : decode cX11_accept 132 = .ok (.iconst 1, 1) := by decide +kernel
theorem dX11_accept_133 : decode cX11_accept 133 = .ok (.putfield 287, 3) := by decide +kernel
theorem dX11_accept_136 : decode cX11_accept 136 = .ok (.iload 5, 2) := by decide +kernel
theorem dX11_accept_138 : decode cX11_accept 138 = .ok (.ireturn, 1) := by decide +kernel
theorem dX11_accept_139 : decode cX11_accept 139 = .ok (.iinc 5 1, 3) := by decide +kernel
theorem dX11_accept_142 : decode cX11_accept 142 = .ok (.goto (-85), 3) := by decide +kernel
theorem dX11_accept_145 : decode cX11_accept 145 = .ok (.iconst (-1), 1) := by decide +kernel
theorem dX11_accept_146 : decode cX11_accept 146 = .ok (.ireturn, 1) := by decide +kernel
theorem dX11_write_0 : decode cX11_write 0 = .ok (.aload_n 0, 1) := by decide +kernel
theorem dX11_write_1 : decode cX11_write 1 = .ok (.iload_n 1, 1) := by decide +kernel
theorem dX11_write_2 : decode cX11_write 2 = .ok (.iload_n 2, 1) := by decide +kernel
theorem dX11_write_3 : decode cX11_write 3 = .ok (.invokevirtual 273, 3) := by decide +kernel
theorem dX11_write_6 : decode cX11_write 6 = .ok (.astore 6, 2) := by decide +kernel
theorem dX11_write_8 : decode cX11_write 8 = .ok (.aload 6, 2) := by decide +kernel
theorem dX11_write_10 : decode cX11_write 10 = .ok (.ifnonnull 14, 3) := by decide +kernel
theorem dX11_write_13 : decode cX11_write 13 = .ok (.new 78, 3) := by decide +kernel
theorem dX11_write_16 : decode cX11_write 16 = .ok (.dup, 1) := by decide +kernel
theorem dX11_write_17 : decode cX11_write 17 = .ok (.ldc_w 277, 3) := by decide +kernel
theorem dX11_write_20 : decode cX11_write 20 = .ok (.invokespecial 82, 3) := by decide +kernel
theorem dX11_write_23 : decode cX11_write 23 = .ok (.athrow, 1) := by decide +kernel
theorem dX11_write_24 : decode cX11_write 24 = .ok (.iload 5, 2) := by decide +kernel
theorem dX11_write_26 : decode cX11_write 26 = .ok (.iconst 1, 1) := by decide +kernel
theorem dX11_write_27 : decode cX11_write 27 = .ok (.if_icmp .lt 10, 3) := by decide +kernel
theorem dX11_write_30 : decode cX11_write 30 = .ok (.iload 5, 2) := by decide +kernel
theorem dX11_write_32 : decode cX11_write 32 = .ok (.bipush 8, 2) := by decide +kernel
theorem dX11_write_34 : decode cX11_write 34 = .ok (.if_icmp .le 14, 3) := by decide +kernel
theorem dX11_write_37 : decode cX11_write 37 = .ok (.new 78, 3) := by decide +kernel
theorem dX11_write_40 : decode cX11_write 40 = .ok (.dup, 1) := by decide +kernel
theorem dX11_write_41 : decode cX11_write 41 = .ok (.ldc_w 293, 3) := by decide +kernel
theorem dX11_write_44 : decode cX11_write 44 = .ok (.invokespecial 82, 3) := by decide +kernel
theorem dX11_write_47 : decode cX11_write 47 = .ok (.athrow, 1) := by decide +kernel
theorem dX11_write_48 : decode cX11_write 48 = .ok (.aload 6, 2) := by decide +kernel
theorem dX11_write_50 : decode cX11_write 50 = .ok (.invokevirtual 295, 3) := by decide +kernel
theorem dX11_write_53 : decode cX11_write 53 = .ok (.ifCond .ne 14, 3) := by decide +kernel
theorem dX11_write_56 : decode cX11_write 56 = .ok (.new 65, 3) := by decide +kernel
theorem dX11_write_59 : decode cX11_write 59 = .ok (.dup, 1) := by decide +kernel
theorem dX11_write_60 : decode cX11_write 60 = .ok (.ldc_w 299, 3) := by decide +kernel
theorem dX11_write_63 : decode cX11_write 63 = .ok (.invokespecial 69, 3) := by decide +kernel
theorem dX11_write_66 : decode cX11_write 66 = .ok (.athrow, 1) := by decide +kernel
theorem dX11_write_67 : decode cX11_write 67 = .ok (.iload 5, 2) := by decide +kernel
theorem dX11_write_69 : decode cX11_write 69 = .ok (.sipush 2048, 3) := by decide +kernel
theorem dX11_write_72 : decode cX11_write 72 = .ok (.aload 6, 2) := by decide +kernel
theorem dX11_write_74 : decode cX11_write 74 = .ok (.getfield 253, 3) := by decide +kernel
theorem dX11_write_77 : decode cX11_write 77 = .ok (.getfield 301, 3) := by decide +kernel
theorem dX11_write_80 : decode cX11_write 80 = .ok (.getfield 305, 3) := by decide +kernel
theorem dX11_write_83 : decode cX11_write 83 = .ok (.isub, 1) := by decide +kernel
theorem dX11_write_84 : decode cX11_write 84 = .ok (.invokestatic 310, 3) := by decide +kernel
theorem dX11_write_87 : decode cX11_write 87 = .ok (.istore 7, 2) := by decide +kernel
theorem dX11_write_89 : decode cX11_write 89 = .ok (.iconst 0, 1) := by decide +kernel
theorem dX11_write_90 : decode cX11_write 90 = .ok (.istore 8, 2) := by decide +kernel
theorem dX11_write_92 : decode cX11_write 92 = .ok (.iload 8, 2) := by decide +kernel
theorem dX11_write_94 : decode cX11_write 94 = .ok (.iload 7, 2) := by decide +kernel
theorem dX11_write_96 : decode cX11_write 96 = .ok (.if_icmp .ge 33, 3) := by decide +kernel
theorem dX11_write_99 : decode cX11_write 99 = .ok (.aload 6, 2) := by decide +kernel
theorem dX11_write_101 : decode cX11_write 101 = .ok (.getfield 253, 3) := by decide +kernel
theorem dX11_write_104 : decode cX11_write 104 = .ok (.getfield 301, 3) := by decide +kernel
theorem dX11_write_107 : decode cX11_write 107 = .ok (.lload_n 3, 1) := by decide +kernel
theorem dX11_write_108 : decode cX11_write 108 = .ok (.bipush 8, 2) := by decide +kernel
theorem dX11_write_110 : decode cX11_write 110 = .ok (.iload 5, 2) := by decide +kernel
theorem dX11_write_112 : decode cX11_write 112 = .ok (.iconst 1, 1) := by decide +kernel
theorem dX11_write_113 : decode cX11_write 113 = .ok (.isub, 1) := by decide +kernel
theorem dX11_write_114 : decode cX11_write 114 = .ok (.iload 8, 2) := by decide +kernel
theorem dX11_write_116 : decode cX11_write 116 = .ok (.isub, 1) := by decide +kernel
theorem dX11_write_117 : decode cX11_write 117 = .ok (.imul, 1) := by decide +kernel
theorem dX11_write_118 : decode cX11_write 118 = .ok (.lushr, 1) := by decide +kernel
theorem dX11_write_119 : decode cX11_write 119 = .ok (.l2i, 1) := by decide +kernel
theorem dX11_write_120 : decode cX11_write 120 = .ok (.invokevirtual 316, 3) := by decide +kernel
theorem dX11_write_123 : decode cX11_write 123 = .ok (.iinc 8 1, 3) := by decide +kernel
theorem dX11_write_126 : decode cX11_write 126 = .ok (.goto (-34), 3) := by decide +kernel
theorem dX11_write_129 : decode cX11_write 129 = .ok (.aload_n 0, 1) := by decide +kernel
theorem dX11_write_130 : decode cX11_write 130 = .ok (.aload 6, 2) := by decide +kernel
theorem dX11_write_132 : decode cX11_write 132 = .ok (.getfield 253, 3) := by decide +kernel
theorem dX11_write_135 : decode cX11_write 135 = .ok (.iload 7, 2) := by decide +kernel
theorem dX11_write_137 : decode cX11_write 137 = .ok (.lload_n 3, 1) := by decide +kernel
theorem dX11_write_138 : decode cX11_write 138 = .ok (.bipush 8, 2) := by decide +kernel
theorem dX11_write_140 : decode cX11_write 140 = .ok (.iload 5, 2) := by decide +kernel
theorem dX11_write_142 : decode cX11_write 142 = .ok (.iload 7, 2) := by decide +kernel
theorem dX11_write_144 : decode cX11_write 144 = .ok (.isub, 1) := by decide +kernel
theorem dX11_write_145 : decode cX11_write 145 = .ok (.imul, 1) := by decide +kernel
theorem dX11_write_146 : decode cX11_write 146 = .ok (.bipush 63, 2) := by decide +kernel
theorem dX11_write_148 : decode cX11_write 148 = .ok (.iand, 1) := by decide +kernel
theorem dX11_write_149 : decode cX11_write 149 = .ok (.lushr, 1) := by decide +kernel
theorem dX11_write_150 : decode cX11_write 150 = .ok (.invokevirtual 319, 3) := by decide +kernel
theorem dX11_write_153 : decode cX11_write 153 = .ok (.aload_n 0, 1) := by decide +kernel
theorem dX11_write_154 : decode cX11_write 154 = .ok (.aload 6, 2) := by decide +kernel
theorem dX11_write_156 : decode cX11_write 156 = .ok (.invokevirtual 323, 3) := by decide +kernel
theorem dX11_write_159 : decode cX11_write 159 = .ok (.iload 7, 2) := by decide +kernel
theorem dX11_write_161 : decode cX11_write 161 = .ok (.ireturn, 1) := by decide +kernel
theorem dX11_fill_0 : decode cX11_fill 0 = .ok (.aload_n 0, 1) := by decide +kernel
theorem dX11_fill_1 : decode cX11_fill 1 = .ok (.iload_n 1, 1) := by decide +kernel
theorem dX11_fill_2 : decode cX11_fill 2 = .ok (.iload_n 2, 1) := by decide +kernel
theorem dX11_fill_3 : decode cX11_fill 3 = .ok (.invokevirtual 273, 3) := by decide +kernel
theorem dX11_fill_6 : decode cX11_fill 6 = .ok (.astore 6, 2) := by decide +kernel
theorem dX11_fill_8 : decode cX11_fill 8 = .ok (.aload 6, 2) := by decide +kernel
theorem dX11_fill_10 : decode cX11_fill 10 = .ok (.ifnonnull 14, 3) := by decide +kernel
theorem dX11_fill_13 : decode cX11_fill 13 = .ok (.new 78, 3) := by decide +kernel
theorem dX11_fill_16 : decode cX11_fill 16 = .ok (.dup, 1) := by decide +kernel
theorem dX11_fill_17 : decode cX11_fill 17 = .ok (.ldc_w 277, 3) := by decide +kernel
theorem dX11_fill_20 : decode cX11_fill 20 = .ok (.invokespecial 82, 3) := by decide +kernel
theorem dX11_fill_23 : decode cX11_fill 23 = .ok (.athrow, 1) := by decide +kernel
theorem dX11_fill_24 : decode cX11_fill 24 = .ok (.iload 5, 2) := by decide +kernel
theorem dX11_fill_26 : decode cX11_fill 26 = .ok (.iconst 1, 1) := by decide +kernel
theorem dX11_fill_27 : decode cX11_fill 27 = .ok (.if_icmp .lt 11, 3) := by decide +kernel
theorem dX11_fill_30 : decode cX11_fill 30 = .ok (.iload 5, 2) := by decide +kernel
theorem dX11_fill_32 : decode cX11_fill 32 = .ok (.sipush 2048, 3) := by decide +kernel
theorem dX11_fill_35 : decode cX11_fill 35 = .ok (.if_icmp .le 14, 3) := by decide +kernel
theorem dX11_fill_38 : decode cX11_fill 38 = .ok (.new 78, 3) := by decide +kernel
theorem dX11_fill_41 : decode cX11_fill 41 = .ok (.dup, 1) := by decide +kernel
theorem dX11_fill_42 : decode cX11_fill 42 = .ok (.ldc_w 327, 3) := by decide +kernel
theorem dX11_fill_45 : decode cX11_fill 45 = .ok (.invokespecial 82, 3) := by decide +kernel
theorem dX11_fill_48 : decode cX11_fill 48 = .ok (.athrow, 1) := by decide +kernel
theorem dX11_fill_49 : decode cX11_fill 49 = .ok (.aload 6, 2) := by decide +kernel
theorem dX11_fill_51 : decode cX11_fill 51 = .ok (.invokevirtual 295, 3) := by decide +kernel
theorem dX11_fill_54 : decode cX11_fill 54 = .ok (.ifCond .ne 14, 3) := by decide +kernel
theorem dX11_fill_57 : decode cX11_fill 57 = .ok (.new 65, 3) := by decide +kernel
theorem dX11_fill_60 : decode cX11_fill 60 = .ok (.dup, 1) := by decide +kernel
theorem dX11_fill_61 : decode cX11_fill 61 = .ok (.ldc_w 299, 3) := by decide +kernel
theorem dX11_fill_64 : decode cX11_fill 64 = .ok (.invokespecial 69, 3) := by decide +kernel
theorem dX11_fill_67 : decode cX11_fill 67 = .ok (.athrow, 1) := by decide +kernel
theorem dX11_fill_68 : decode cX11_fill 68 = .ok (.iload 5, 2) := by decide +kernel
theorem dX11_fill_70 : decode cX11_fill 70 = .ok (.sipush 2048, 3) := by decide +kernel
theorem dX11_fill_73 : decode cX11_fill 73 = .ok (.aload 6, 2) := by decide +kernel
theorem dX11_fill_75 : decode cX11_fill 75 = .ok (.getfield 253, 3) := by decide +kernel
theorem dX11_fill_78 : decode cX11_fill 78 = .ok (.getfield 301, 3) := by decide +kernel
theorem dX11_fill_81 : decode cX11_fill 81 = .ok (.getfield 305, 3) := by decide +kernel
theorem dX11_fill_84 : decode cX11_fill 84 = .ok (.isub, 1) := by decide +kernel
theorem dX11_fill_85 : decode cX11_fill 85 = .ok (.invokestatic 310, 3) := by decide +kernel
theorem dX11_fill_88 : decode cX11_fill 88 = .ok (.istore 7, 2) := by decide +kernel
theorem dX11_fill_90 : decode cX11_fill 90 = .ok (.iconst 0, 1) := by decide +kernel
theorem dX11_fill_91 : decode cX11_fill 91 = .ok (.istore 8, 2) := by decide +kernel
theorem dX11_fill_93 : decode cX11_fill 93 = .ok (.iload 8, 2) := by decide +kernel
theorem dX11_fill_95 : decode cX11_fill 95 = .ok (.iload 7, 2) := by decide +kernel
theorem dX11_fill_97 : decode cX11_fill 97 = .ok (.if_icmp .ge 27, 3) := by decide +kernel
theorem dX11_fill_100 : decode cX11_fill 100 = .ok (.aload 6, 2) := by decide +kernel
theorem dX11_fill_102 : decode cX11_fill 102 = .ok (.getfield 253, 3) := by decide +kernel
theorem dX11_fill_105 : decode cX11_fill 105 = .ok (.getfield 301, 3) := by decide +kernel
theorem dX11_fill_108 : decode cX11_fill 108 = .ok (.iload_n 3, 1) := by decide +kernel
theorem dX11_fill_109 : decode cX11_fill 109 = .ok (.iload 8, 2) := by decide +kernel
theorem dX11_fill_111 : decode cX11_fill 111 = .ok (.iload 4, 2) := by decide +kernel
theorem dX11_fill_113 : decode cX11_fill 113 = .ok (.imul, 1) := by decide +kernel
theorem dX11_fill_114 : decode cX11_fill 114 = .ok (.iadd, 1) := by decide +kernel
theorem dX11_fill_115 : decode cX11_fill 115 = .ok (.invokevirtual 316, 3) := by decide +kernel
theorem dX11_fill_118 : decode cX11_fill 118 = .ok (.iinc 8 1, 3) := by decide +kernel
theorem dX11_fill_121 : decode cX11_fill 121 = .ok (.goto (-28), 3) := by decide +kernel
theorem dX11_fill_124 : decode cX11_fill 124 = .ok (.aload_n 0, 1) := by decide +kernel
theorem dX11_fill_125 : decode cX11_fill 125 = .ok (.aload 6, 2) := by decide +kernel
theorem dX11_fill_127 : decode cX11_fill 127 = .ok (.getfield 253, 3) := by decide +kernel
theorem dX11_fill_130 : decode cX11_fill 130 = .ok (.iload 7, 2) := by decide +kernel
theorem dX11_fill_132 : decode cX11_fill 132 = .ok (.sipush 4096, 3) := by decide +kernel
theorem dX11_fill_135 : decode cX11_fill 135 = .ok (.iadd, 1) := by decide +kernel
theorem dX11_fill_136 : decode cX11_fill 136 = .ok (.iload 4, 2) := by decide +kernel
theorem dX11_fill_138 : decode cX11_fill 138 = .ok (.sipush 255, 3) := by decide +kernel
theorem dX11_fill_141 : decode cX11_fill 141 = .ok (.iand, 1) := by decide +kernel
theorem dX11_fill_142 : decode cX11_fill 142 = .ok (.i2l, 1) := by decide +kernel
theorem dX11_fill_143 : decode cX11_fill 143 = .ok (.bipush 8, 2) := by decide +kernel
theorem dX11_fill_145 : decode cX11_fill 145 = .ok (.lshl, 1) := by decide +kernel
theorem dX11_fill_146 : decode cX11_fill 146 = .ok (.iload_n 3, 1) := by decide +kernel
theorem dX11_fill_147 : decode cX11_fill 147 = .ok (.sipush 255, 3) := by decide +kernel
theorem dX11_fill_150 : decode cX11_fill 150 = .ok (.iand, 1) := by decide +kernel
theorem dX11_fill_151 : decode cX11_fill 151 = .ok (.i2l, 1) := by decide +kernel
theorem dX11_fill_152 : decode cX11_fill 152 = .ok (.lor, 1) := by decide +kernel
theorem dX11_fill_153 : decode cX11_fill 153 = .ok (.invokevirtual 319, 3) := by decide +kernel
theorem dX11_fill_156 : decode cX11_fill 156 = .ok (.aload_n 0, 1) := by decide +kernel
theorem dX11_fill_157 : decode cX11_fill 157 = .ok (.aload 6, 2) := by decide +kernel
theorem dX11_fill_159 : decode cX11_fill 159 = .ok (.invokevirtual 323, 3) := by decide +kernel
theorem dX11_fill_162 : decode cX11_fill 162 = .ok (.iload 7, 2) := by decide +kernel
theorem dX11_fill_164 : decode cX11_fill 164 = .ok (.ireturn, 1) := by decide +kernel
theorem dX11_read_0 : decode cX11_read 0 = .ok (.aload_n 0, 1) := by decide +kernel
theorem dX11_read_1 : decode cX11_read 1 = .ok (.iload_n 1, 1) := by decide +kernel
theorem dX11_read_2 : decode cX11_read 2 = .ok (.iload_n 2, 1) := by decide +kernel
theorem dX11_read_3 : decode cX11_read 3 = .ok (.invokevirtual 329, 3) := by decide +kernel
theorem dX11_read_6 : decode cX11_read 6 = .ok (.astore_n 3, 1) := by decide +kernel
theorem dX11_read_7 : decode cX11_read 7 = .ok (.aload_n 3, 1) := by decide +kernel
theorem dX11_read_8 : decode cX11_read 8 = .ok (.getfield 253, 3) := by decide +kernel
theorem dX11_read_11 : decode cX11_read 11 = .ok (.getfield 332, 3) := by decide +kernel
theorem dX11_read_14 : decode cX11_read 14 = .ok (.getfield 336, 3) := by decide +kernel
theorem dX11_read_17 : decode cX11_read 17 = .ok (.ifCond .ne 23, 3) := by decide +kernel
theorem dX11_read_20 : decode cX11_read 20 = .ok (.aload_n 3, 1) := by decide +kernel
theorem dX11_read_21 : decode cX11_read 21 = .ok (.getfield 253, 3) := by decide +kernel
theorem dX11_read_24 : decode cX11_read 24 = .ok (.getfield 332, 3) := by decide +kernel
theorem dX11_read_27 : decode cX11_read 27 = .ok (.getfield 339, 3) := by decide +kernel
theorem dX11_read_30 : decode cX11_read 30 = .ok (.ifCond .eq 8, 3) := by decide +kernel
theorem dX11_read_33 : decode cX11_read 33 = .ok (.bipush (-2), 2) := by decide +kernel
theorem dX11_read_35 : decode cX11_read 35 = .ok (.goto 4, 3) := by decide +kernel
theorem dX11_read_38 : decode cX11_read 38 = .ok (.iconst (-1), 1) := by decide +kernel
theorem dX11_read_39 : decode cX11_read 39 = .ok (.ireturn, 1) := by decide +kernel
theorem dX11_read_40 : decode cX11_read 40 = .ok (.aload_n 0, 1) := by decide +kernel
theorem dX11_read_41 : decode cX11_read 41 = .ok (.aload_n 3, 1) := by decide +kernel
theorem dX11_read_42 : decode cX11_read 42 = .ok (.invokevirtual 342, 3) := by decide +kernel
theorem dX11_read_45 : decode cX11_read 45 = .ok (.ireturn, 1) := by decide +kernel
theorem dX11_readAll_0 : decode cX11_readAll 0 = .ok (.aload_n 0, 1) := by decide +kernel
theorem dX11_readAll_1 : decode cX11_readAll 1 = .ok (.iload_n 1, 1) := by decide +kernel
theorem dX11_readAll_2 : decode cX11_readAll 2 = .ok (.iload_n 2, 1) := by decide +kernel
theorem dX11_readAll_3 : decode cX11_readAll 3 = .ok (.invokevirtual 273, 3) := by decide +kernel
theorem dX11_readAll_6 : decode cX11_readAll 6 = .ok (.ifnonnull 14, 3) := by decide +kernel
theorem dX11_readAll_9 : decode cX11_readAll 9 = .ok (.new 78, 3) := by decide +kernel
theorem dX11_readAll_12 : decode cX11_readAll 12 = .ok (.dup, 1) := by decide +kernel
theorem dX11_readAll_13 : decode cX11_readAll 13 = .ok (.ldc_w 277, 3) := by decide +kernel
theorem dX11_readAll_16 : decode cX11_readAll 16 = .ok (.invokespecial 82, 3) := by decide +kernel
theorem dX11_readAll_19 : decode cX11_readAll 19 = .ok (.athrow, 1) := by decide +kernel
theorem dX11_readAll_20 : decode cX11_readAll 20 = .ok (.iload_n 3, 1) := by decide +kernel
theorem dX11_readAll_21 : decode cX11_readAll 21 = .ok (.iconst 1, 1) := by decide +kernel
theorem dX11_readAll_22 : decode cX11_readAll 22 = .ok (.if_icmp .lt 10, 3) := by decide +kernel
theorem dX11_readAll_25 : decode cX11_readAll 25 = .ok (.iload_n 3, 1) := by decide +kernel
theorem dX11_readAll_26 : decode cX11_readAll 26 = .ok (.sipush 2048, 3) := by decide +kernel
theorem dX11_readAll_29 : decode cX11_readAll 29 = .ok (.if_icmp .le 14, 3) := by decide +kernel
theorem dX11_readAll_32 : decode cX11_readAll 32 = .ok (.new 78, 3) := by decide +kernel
theorem dX11_readAll_35 : decode cX11_readAll 35 = .ok (.dup, 1) := by decide +kernel
theorem dX11_readAll_36 : decode cX11_readAll 36 = .ok (.ldc_w 327, 3) := by decide +kernel
theorem dX11_readAll_39 : decode cX11_readAll 39 = .ok (.invokespecial 82, 3) := by decide +kernel
theorem dX11_readAll_42 : decode cX11_readAll 42 = .ok (.athrow, 1) := by decide +kernel
theorem dX11_readAll_43 : decode cX11_readAll 43 = .ok (.aload_n 0, 1) := by decide +kernel
theorem dX11_readAll_44 : decode cX11_readAll 44 = .ok (.iload_n 1, 1) := by decide +kernel
theorem dX11_readAll_45 : decode cX11_readAll 45 = .ok (.iload_n 2, 1) := by decide +kernel
theorem dX11_readAll_46 : decode cX11_readAll 46 = .ok (.invokevirtual 329, 3) := by decide +kernel
theorem dX11_readAll_49 : decode cX11_readAll 49 = .ok (.astore 4, 2) := by decide +kernel
theorem dX11_readAll_51 : decode cX11_readAll 51 = .ok (.iconst 1, 1) := by decide +kernel
theorem dX11_readAll_52 : decode cX11_readAll 52 = .ok (.istore 5, 2) := by decide +kernel
theorem dX11_readAll_54 : decode cX11_readAll 54 = .ok (.iconst 0, 1) := by decide +kernel
theorem dX11_readAll_55 : decode cX11_readAll 55 = .ok (.istore 6, 2) := by decide +kernel
theorem dX11_readAll_57 : decode cX11_readAll 57 = .ok (.iload 6, 2) := by decide +kernel
theorem dX11_readAll_59 : decode cX11_readAll 59 = .ok (.iload_n 3, 1) := by decide +kernel
theorem dX11_readAll_60 : decode cX11_readAll 60 = .ok (.if_icmp .ge 37, 3) := by decide +kernel
theorem dX11_readAll_63 : decode cX11_readAll 63 = .ok (.aload 4, 2) := by decide +kernel
theorem dX11_readAll_65 : decode cX11_readAll 65 = .ok (.getfield 253, 3) := by decide +kernel
theorem dX11_readAll_68 : decode cX11_readAll 68 = .ok (.getfield 332, 3) := by decide +kernel
theorem dX11_readAll_71 : decode cX11_readAll 71 = .ok (.getfield 336, 3) := by decide +kernel
theorem dX11_readAll_74 : decode cX11_readAll 74 = .ok (.ifCond .le 23, 3) := by decide +kernel
theorem dX11_readAll_77 : decode cX11_readAll 77 = .ok (.bipush 31, 2) := by decide +kernel
theorem dX11_readAll_79 : decode cX11_readAll 79 = .ok (.iload 5, 2) := by decide +kernel
theorem dX11_readAll_81 : decode cX11_readAll 81 = .ok (.imul, 1) := by decide +kernel
theorem dX11_readAll_82 : decode cX11_readAll 82 = .ok (.aload_n 0, 1) := by decide +kernel
theorem dX11_readAll_83 : decode cX11_readAll 83 = .ok (.aload 4, 2) := by decide +kernel
theorem dX11_readAll_85 : decode cX11_readAll 85 = .ok (.invokevirtual 342, 3) := by decide +kernel
theorem dX11_readAll_88 : decode cX11_readAll 88 = .ok (.iadd, 1) := by decide +kernel
theorem dX11_readAll_89 : decode cX11_readAll 89 = .ok (.istore 5, 2) := by decide +kernel
theorem dX11_readAll_91 : decode cX11_readAll 91 = .ok (.iinc 6 1, 3) := by decide +kernel
theorem dX11_readAll_94 : decode cX11_readAll 94 = .ok (.goto (-37), 3) := by decide +kernel
theorem dX11_readAll_97 : decode cX11_readAll 97 = .ok (.iload 5, 2) := by decide +kernel
theorem dX11_readAll_99 : decode cX11_readAll 99 = .ok (.ireturn, 1) := by decide +kernel
theorem dX11_close_0 : decode cX11_close 0 = .ok (.aload_n 0, 1) := by decide +kernel
theorem dX11_close_1 : decode cX11_close 1 = .ok (.iload_n 1, 1) := by decide +kernel
theorem dX11_close_2 : decode cX11_close 2 = .ok (.invokevirtual 198, 3) := by decide +kernel
theorem dX11_close_5 : decode cX11_close 5 = .ok (.astore_n 3, 1) := by decide +kernel
theorem dX11_close_6 : decode cX11_close 6 = .ok (.aload_n 0, 1) := by decide +kernel
theorem dX11_close_7 : decode cX11_close 7 = .ok (.iload_n 1, 1) := by decide +kernel
theorem dX11_close_8 : decode cX11_close 8 = .ok (.iload_n 2, 1) := by decide +kernel
theorem dX11_close_9 : decode cX11_close 9 = .ok (.invokevirtual 273, 3) := by decide +kernel
theorem dX11_close_12 : decode cX11_close 12 = .ok (.astore 4, 2) := by decide +kernel
theorem dX11_close_14 : decode cX11_close 14 = .ok (.aload_n 3, 1) := by decide +kernel
theorem dX11_close_15 : decode cX11_close 15 = .ok (.ifnull 8, 3) := by decide +kernel
theorem dX11_close_18 : decode cX11_close 18 = .ok (.aload 4, 2) := by decide +kernel
theorem dX11_close_20 : decode cX11_close 20 = .ok (.ifnonnull 14, 3) := by decide +kernel
theorem dX11_close_23 : decode cX11_close 23 = .ok (.new 78, 3) := by decide +kernel
theorem dX11_close_26 : decode cX11_close 26 = .ok (.dup, 1) := by decide +kernel
theorem dX11_close_27 : decode cX11_close 27 = .ok (.ldc_w 277, 3) := by decide +kernel
theorem dX11_close_30 : decode cX11_close 30 = .ok (.invokespecial 82, 3) := by decide +kernel
theorem dX11_close_33 : decode cX11_close 33 = .ok (.athrow, 1) := by decide +kernel
theorem dX11_close_34 : decode cX11_close 34 = .ok (.aload 4, 2) := by decide +kernel
theorem dX11_close_36 : decode cX11_close 36 = .ok (.getfield 279, 3) := by decide +kernel
theorem dX11_close_39 : decode cX11_close 39 = .ok (.ifCond .ne 14, 3) := by decide +kernel
theorem dX11_close_42 : decode cX11_close 42 = .ok (.new 65, 3) := by decide +kernel
theorem dX11_close_45 : decode cX11_close 45 = .ok (.dup, 1) := by decide +kernel
theorem dX11_close_46 : decode cX11_close 46 = .ok (.ldc_w 346, 3) := by decide +kernel
theorem dX11_close_49 : decode cX11_close 49 = .ok (.invokespecial 69, 3) := by decide +kernel
theorem dX11_close_52 : decode cX11_close 52 = .ok (.athrow, 1) := by decide +kernel
theorem dX11_close_53 : decode cX11_close 53 = .ok (.aload 4, 2) := by decide +kernel
theorem dX11_close_55 : decode cX11_close 55 = .ok (.getfield 279, 3) := by decide +kernel
theorem dX11_close_58 : decode cX11_close 58 = .ok (.iconst 1, 1) := by decide +kernel
theorem dX11_close_59 : decode cX11_close 59 = .ok (.if_icmp .ne 17, 3) := by decide +kernel
theorem dX11_close_62 : decode cX11_close 62 = .ok (.aload_n 0, 1) := by decide +kernel
theorem dX11_close_63 : decode cX11_close 63 = .ok (.aload_n 3, 1) := by decide +kernel
theorem dX11_close_64 : decode cX11_close 64 = .ok (.iload_n 2, 1) := by decide +kernel
theorem dX11_close_65 : decode cX11_close 65 = .ok (.invokevirtual 348, 3) := by decide +kernel
theorem dX11_close_68 : decode cX11_close 68 = .ok (.aload 4, 2) := by decide +kernel
theorem dX11_close_70 : decode cX11_close 70 = .ok (.invokevirtual 352, 3) := by decide +kernel
theorem dX11_close_73 : decode cX11_close 73 = .ok (.goto 67, 3) := by decide +kernel
theorem dX11_close_76 : decode cX11_close 76 = .ok (.aload 4, 2) := by decide +kernel
theorem dX11_close_78 : decode cX11_close 78 = .ok (.getfield 253, 3) := by decide +kernel
theorem dX11_close_81 : decode cX11_close 81 = .ok (.invokevirtual 355, 3) := by decide +kernel
theorem dX11_close_84 : decode cX11_close 84 = .ok (.ifCond .eq 11, 3) := by decide +kernel
theorem dX11_close_87 : decode cX11_close 87 = .ok (.aload 4, 2) := by decide +kernel
theorem dX11_close_89 : decode cX11_close 89 = .ok (.invokevirtual 352, 3) := by decide +kernel
theorem dX11_close_92 : decode cX11_close 92 = .ok (.goto 48, 3) := by decide +kernel
theorem dX11_close_95 : decode cX11_close 95 = .ok (.aload 4, 2) := by decide +kernel
theorem dX11_close_97 : decode cX11_close 97 = .ok (.getfield 253, 3) := by decide +kernel
theorem dX11_close_100 : decode cX11_close 100 = .ok (.getfield 301, 3) := by decide +kernel
theorem dX11_close_103 : decode cX11_close 103 = .ok (.getfield 358, 3) := by decide +kernel
theorem dX11_close_106 : decode cX11_close 106 = .ok (.ifCond .eq 14, 3) := by decide +kernel
theorem dX11_close_109 : decode cX11_close 109 = .ok (.new 65, 3) := by decide +kernel
theorem dX11_close_112 : decode cX11_close 112 = .ok (.dup, 1) := by decide +kernel
theorem dX11_close_113 : decode cX11_close 113 = .ok (.ldc_w 361, 3) := by decide +kernel
theorem dX11_close_116 : decode cX11_close 116 = .ok (.invokespecial 69, 3) := by decide +kernel
theorem dX11_close_119 : decode cX11_close 119 = .ok (.athrow, 1) := by decide +kernel
theorem dX11_close_120 : decode cX11_close 120 = .ok (.aload 4, 2) := by decide +kernel
theorem dX11_close_122 : decode cX11_close 122 = .ok (.getfield 253, 3) := by decide +kernel
theorem dX11_close_125 : decode cX11_close 125 = .ok (.invokevirtual 363, 3) := by decide +kernel
theorem dX11_close_128 : decode cX11_close 128 = .ok (.aload 4, 2) := by decide +kernel
theorem dX11_close_130 : decode cX11_close 130 = .ok (.getfield 253, 3) := by decide +kernel
theorem dX11_close_133 : decode cX11_close 133 = .ok (.aload_n 0, 1) := by decide +kernel
theorem dX11_close_134 : decode cX11_close 134 = .ok (.getfield 176, 3) := by decide +kernel
theorem dX11_close_137 : decode cX11_close 137 = .ok (.invokevirtual 366, 3) := by decide +kernel
theorem dX11_close_140 : decode cX11_close 140 = .ok (.aload_n 0, 1) := by decide +kernel
theorem dX11_close_141 : decode cX11_close 141 = .ok (.invokevirtual 75, 3) := by decide +kernel
theorem dX11_close_144 : decode cX11_close 144 = .ok (.return_, 1) := by decide +kernel
theorem dX11_abort_0 : decode cX11_abort 0 = .ok (.aload_n 0, 1) := by decide +kernel
theorem dX11_abort_1 : decode cX11_abort 1 = .ok (.iload_n 1, 1) := by decide +kernel
theorem dX11_abort_2 : decode cX11_abort 2 = .ok (.iload_n 2, 1) := by decide +kernel
theorem dX11_abort_3 : decode cX11_abort 3 = .ok (.invokevirtual 273, 3) := by decide +kernel
theorem dX11_abort_6 : decode cX11_abort 6 = .ok (.astore_n 3, 1) := by decide +kernel
theorem dX11_abort_7 : decode cX11_abort 7 = .ok (.aload_n 3, 1) := by decide +kernel
theorem dX11_abort_8 : decode cX11_abort 8 = .ok (.ifnonnull 14, 3) := by decide +kernel
theorem dX11_abort_11 : decode cX11_abort 11 = .ok (.new 78, 3) := by decide +kernel
theorem dX11_abort_14 : decode cX11_abort 14 = .ok (.dup, 1) := by decide +kernel
theorem dX11_abort_15 : decode cX11_abort 15 = .ok (.ldc_w 277, 3) := by decide +kernel
theorem dX11_abort_18 : decode cX11_abort 18 = .ok (.invokespecial 82, 3) := by decide +kernel
theorem dX11_abort_21 : decode cX11_abort 21 = .ok (.athrow, 1) := by decide +kernel
theorem dX11_abort_22 : decode cX11_abort 22 = .ok (.aload_n 3, 1) := by decide +kernel
theorem dX11_abort_23 : decode cX11_abort 23 = .ok (.getfield 279, 3) := by decide +kernel
theorem dX11_abort_26 : decode cX11_abort 26 = .ok (.iconst 2, 1) := by decide +kernel
theorem dX11_abort_27 : decode cX11_abort 27 = .ok (.if_icmp .eq 14, 3) := by decide +kernel
theorem dX11_abort_30 : decode cX11_abort 30 = .ok (.new 65, 3) := by decide +kernel
theorem dX11_abort_33 : decode cX11_abort 33 = .ok (.dup, 1) := by decide +kernel
theorem dX11_abort_34 : decode cX11_abort 34 = .ok (.ldc_w 369, 3) := by decide +kernel
theorem dX11_abort_37 : decode cX11_abort 37 = .ok (.invokespecial 69, 3) := by decide +kernel
theorem dX11_abort_40 : decode cX11_abort 40 = .ok (.athrow, 1) := by decide +kernel
theorem dX11_abort_41 : decode cX11_abort 41 = .ok (.aload_n 3, 1) := by decide +kernel
theorem dX11_abort_42 : decode cX11_abort 42 = .ok (.getfield 253, 3) := by decide +kernel
theorem dX11_abort_45 : decode cX11_abort 45 = .ok (.invokevirtual 355, 3) := by decide +kernel
theorem dX11_abort_48 : decode cX11_abort 48 = .ok (.ifCond .eq 14, 3) := by decide +kernel
theorem dX11_abort_51 : decode cX11_abort 51 = .ok (.new 65, 3) := by decide +kernel
theorem dX11_abort_54 : decode cX11_abort 54 = .ok (.dup, 1) := by decide +kernel
theorem dX11_abort_55 : decode cX11_abort 55 = .ok (.ldc_w 371, 3) := by decide +kernel
theorem dX11_abort_58 : decode cX11_abort 58 = .ok (.invokespecial 69, 3) := by decide +kernel
theorem dX11_abort_61 : decode cX11_abort 61 = .ok (.athrow, 1) := by decide +kernel
theorem dX11_abort_62 : decode cX11_abort 62 = .ok (.aload_n 3, 1) := by decide +kernel
theorem dX11_abort_63 : decode cX11_abort 63 = .ok (.getfield 253, 3) := by decide +kernel
theorem dX11_abort_66 : decode cX11_abort 66 = .ok (.invokevirtual 373, 3) := by decide +kernel
theorem dX11_abort_69 : decode cX11_abort 69 = .ok (.aload_n 0, 1) := by decide +kernel
theorem dX11_abort_70 : decode cX11_abort 70 = .ok (.invokevirtual 75, 3) := by decide +kernel
theorem dX11_abort_73 : decode cX11_abort 73 = .ok (.return_, 1) := by decide +kernel
theorem dX11_door_0 : decode cX11_door 0 = .ok (.aload_n 0, 1) := by decide +kernel
theorem dX11_door_1 : decode cX11_door 1 = .ok (.iload_n 1, 1) := by decide +kernel
theorem dX11_door_2 : decode cX11_door 2 = .ok (.iload_n 2, 1) := by decide +kernel
theorem dX11_door_3 : decode cX11_door 3 = .ok (.invokevirtual 273, 3) := by decide +kernel
theorem dX11_door_6 : decode cX11_door 6 = .ok (.astore 4, 2) := by decide +kernel
theorem dX11_door_8 : decode cX11_door 8 = .ok (.aload 4, 2) := by decide +kernel
theorem dX11_door_10 : decode cX11_door 10 = .ok (.ifnonnull 14, 3) := by decide +kernel
theorem dX11_door_13 : decode cX11_door 13 = .ok (.new 78, 3) := by decide +kernel
theorem dX11_door_16 : decode cX11_door 16 = .ok (.dup, 1) := by decide +kernel
theorem dX11_door_17 : decode cX11_door 17 = .ok (.ldc_w 277, 3) := by decide +kernel
theorem dX11_door_20 : decode cX11_door 20 = .ok (.invokespecial 82, 3) := by decide +kernel
theorem dX11_door_23 : decode cX11_door 23 = .ok (.athrow, 1) := by decide +kernel
theorem dX11_door_24 : decode cX11_door 24 = .ok (.iload_n 3, 1) := by decide +kernel
theorem dX11_door_25 : decode cX11_door 25 = .ok (.ifCond .lt 9, 3) := by decide +kernel
theorem dX11_door_28 : decode cX11_door 28 = .ok (.iload_n 3, 1) := by decide +kernel
theorem dX11_door_29 : decode cX11_door 29 = .ok (.bipush 6, 2) := by decide +kernel
theorem dX11_door_31 : decode cX11_door 31 = .ok (.if_icmp .le 14, 3) := by decide +kernel
theorem dX11_door_34 : decode cX11_door 34 = .ok (.new 78, 3) := by decide +kernel
theorem dX11_door_37 : decode cX11_door 37 = .ok (.dup, 1) := by decide +kernel
theorem dX11_door_38 : decode cX11_door 38 = .ok (.ldc_w 376, 3) := by decide +kernel
theorem dX11_door_41 : decode cX11_door 41 = .ok (.invokespecial 82, 3) := by decide +kernel
theorem dX11_door_44 : decode cX11_door 44 = .ok (.athrow, 1) := by decide +kernel
theorem dX11_door_45 : decode cX11_door 45 = .ok (.aload 4, 2) := by decide +kernel
theorem dX11_door_47 : decode cX11_door 47 = .ok (.getfield 279, 3) := by decide +kernel
theorem dX11_door_50 : decode cX11_door 50 = .ok (.iconst 2, 1) := by decide +kernel
theorem dX11_door_51 : decode cX11_door 51 = .ok (.if_icmp .ne 7, 3) := by decide +kernel
theorem dX11_door_54 : decode cX11_door 54 = .ok (.iconst 1, 1) := by decide +kernel
theorem dX11_door_55 : decode cX11_door 55 = .ok (.goto 4, 3) := by decide +kernel
theorem dX11_door_58 : decode cX11_door 58 = .ok (.iconst 0, 1) := by decide +kernel
theorem dX11_door_59 : decode cX11_door 59 = .ok (.istore 5, 2) := by decide +kernel
theorem dX11_door_61 : decode cX11_door 61 = .ok (.iload_n 3, 1) := by decide +kernel
theorem dX11_door_62 : decode cX11_door 62 = .ok (.tableswitch 137 0 5 #[38, 70, 76, 82, 88, 109], 38) := by decide +kernel
theorem dX11_door_100 : decode cX11_door 100 = .ok (.iload 5, 2) := by decide +kernel
theorem dX11_door_102 : decode cX11_door 102 = .ok (.ifCond .eq 14, 3) := by decide +kernel
theorem dX11_door_105 : decode cX11_door 105 = .ok (.aload 4, 2) := by decide +kernel
theorem dX11_door_107 : decode cX11_door 107 = .ok (.getfield 253, 3) := by decide +kernel
theorem dX11_door_110 : decode cX11_door 110 = .ok (.getfield 290, 3) := by decide +kernel
theorem dX11_door_113 : decode cX11_door 113 = .ok (.goto 18, 3) := by decide +kernel
theorem dX11_door_116 : decode cX11_door 116 = .ok (.aload 4, 2) := by decide +kernel
theorem dX11_door_118 : decode cX11_door 118 = .ok (.getfield 279, 3) := by decide +kernel
theorem dX11_door_121 : decode cX11_door 121 = .ok (.iconst 1, 1) := by decide +kernel
theorem dX11_door_122 : decode cX11_door 122 = .ok (.if_icmp .ne 7, 3) := by decide +kernel
theorem dX11_door_125 : decode cX11_door 125 = .ok (.iconst 1, 1) := by decide +kernel
theorem dX11_door_126 : decode cX11_door 126 = .ok (.goto 5, 3) := by decide +kernel
theorem dX11_door_129 : decode cX11_door 129 = .ok (.bipush 12, 2) := by decide +kernel
theorem dX11_door_131 : decode cX11_door 131 = .ok (.ireturn, 1) := by decide +kernel
theorem dX11_door_132 : decode cX11_door 132 = .ok (.aload 4, 2) := by decide +kernel
theorem dX11_door_134 : decode cX11_door 134 = .ok (.getfield 378, 3) := by decide +kernel
theorem dX11_door_137 : decode cX11_door 137 = .ok (.ireturn, 1) := by decide +kernel
theorem dX11_door_138 : decode cX11_door 138 = .ok (.aload 4, 2) := by decide +kernel
theorem dX11_door_140 : decode cX11_door 140 = .ok (.getfield 381, 3) := by decide +kernel
theorem dX11_door_143 : decode cX11_door 143 = .ok (.ireturn, 1) := by decide +kernel
theorem dX11_door_144 : decode cX11_door 144 = .ok (.aload 4, 2) := by decide +kernel
theorem dX11_door_146 : decode cX11_door 146 = .ok (.getfield 384, 3) := by decide +kernel
theorem dX11_door_149 : decode cX11_door 149 = .ok (.ireturn, 1) := by decide +kernel
theorem dX11_door_150 : decode cX11_door 150 = .ok (.iload 5, 2) := by decide +kernel
theorem dX11_door_152 : decode cX11_door 152 = .ok (.ifCond .eq 17, 3) := by decide +kernel
theorem dX11_door_155 : decode cX11_door 155 = .ok (.aload 4, 2) := by decide +kernel
theorem dX11_door_157 : decode cX11_door 157 = .ok (.getfield 253, 3) := by decide +kernel
theorem dX11_door_160 : decode cX11_door 160 = .ok (.getfield 332, 3) := by decide +kernel
theorem dX11_door_163 : decode cX11_door 163 = .ok (.getfield 336, 3) := by decide +kernel
theorem dX11_door_166 : decode cX11_door 166 = .ok (.goto 4, 3) := by decide +kernel
theorem dX11_door_169 : decode cX11_door 169 = .ok (.iconst 0, 1) := by decide +kernel
theorem dX11_door_170 : decode cX11_door 170 = .ok (.ireturn, 1) := by decide +kernel
theorem dX11_door_171 : decode cX11_door 171 = .ok (.aload 4, 2) := by decide +kernel
theorem dX11_door_173 : decode cX11_door 173 = .ok (.invokevirtual 295, 3) := by decide +kernel
theorem dX11_door_176 : decode cX11_door 176 = .ok (.ifCond .eq 21, 3) := by decide +kernel
theorem dX11_door_179 : decode cX11_door 179 = .ok (.sipush 2048, 3) := by decide +kernel
theorem dX11_door_182 : decode cX11_door 182 = .ok (.aload 4, 2) := by decide +kernel
theorem dX11_door_184 : decode cX11_door 184 = .ok (.getfield 253, 3) := by decide +kernel
theorem dX11_door_187 : decode cX11_door 187 = .ok (.getfield 301, 3) := by decide +kernel
theorem dX11_door_190 : decode cX11_door 190 = .ok (.getfield 305, 3) := by decide +kernel
theorem dX11_door_193 : decode cX11_door 193 = .ok (.isub, 1) := by decide +kernel
theorem dX11_door_194 : decode cX11_door 194 = .ok (.goto 4, 3) := by decide +kernel
theorem dX11_door_197 : decode cX11_door 197 = .ok (.iconst 0, 1) := by decide +kernel
theorem dX11_door_198 : decode cX11_door 198 = .ok (.ireturn, 1) := by decide +kernel
theorem dX11_door_199 : decode cX11_door 199 = .ok (.iload 5, 2) := by decide +kernel
theorem dX11_door_201 : decode cX11_door 201 = .ok (.ifCond .eq 17, 3) := by decide +kernel
theorem dX11_door_204 : decode cX11_door 204 = .ok (.aload 4, 2) := by decide +kernel
theorem dX11_door_206 : decode cX11_door 206 = .ok (.getfield 253, 3) := by decide +kernel
theorem dX11_door_209 : decode cX11_door 209 = .ok (.getfield 301, 3) := by decide +kernel
theorem dX11_door_212 : decode cX11_door 212 = .ok (.getfield 305, 3) := by decide +kernel
theorem dX11_door_215 : decode cX11_door 215 = .ok (.goto 4, 3) := by decide +kernel
theorem dX11_door_218 : decode cX11_door 218 = .ok (.iconst 0, 1) := by decide +kernel
theorem dX11_door_219 : decode cX11_door 219 = .ok (.ireturn, 1) := by decide +kernel
theorem dX11_drain_0 : decode cX11_drain 0 = .ok (.aload_n 0, 1) := by decide +kernel
theorem dX11_drain_1 : decode cX11_drain 1 = .ok (.iload_n 1, 1) := by decide +kernel
theorem dX11_drain_2 : decode cX11_drain 2 = .ok (.iload_n 2, 1) := by decide +kernel
theorem dX11_drain_3 : decode cX11_drain 3 = .ok (.invokevirtual 273, 3) := by decide +kernel
theorem dX11_drain_6 : decode cX11_drain 6 = .ok (.astore 4, 2) := by decide +kernel
theorem dX11_drain_8 : decode cX11_drain 8 = .ok (.aload 4, 2) := by decide +kernel
theorem dX11_drain_10 : decode cX11_drain 10 = .ok (.ifnonnull 14, 3) := by decide +kernel
theorem dX11_drain_13 : decode cX11_drain 13 = .ok (.new 78, 3) := by decide +kernel
theorem dX11_drain_16 : decode cX11_drain 16 = .ok (.dup, 1) := by decide +kernel
theorem dX11_drain_17 : decode cX11_drain 17 = .ok (.ldc_w 277, 3) := by decide +kernel
theorem dX11_drain_20 : decode cX11_drain 20 = .ok (.invokespecial 82, 3) := by decide +kernel
theorem dX11_drain_23 : decode cX11_drain 23 = .ok (.athrow, 1) := by decide +kernel
theorem dX11_drain_24 : decode cX11_drain 24 = .ok (.aload 4, 2) := by decide +kernel
theorem dX11_drain_26 : decode cX11_drain 26 = .ok (.getfield 279, 3) := by decide +kernel
theorem dX11_drain_29 : decode cX11_drain 29 = .ok (.iconst 2, 1) := by decide +kernel
theorem dX11_drain_30 : decode cX11_drain 30 = .ok (.if_icmp .eq 14, 3) := by decide +kernel
theorem dX11_drain_33 : decode cX11_drain 33 = .ok (.new 65, 3) := by decide +kernel
theorem dX11_drain_36 : decode cX11_drain 36 = .ok (.dup, 1) := by decide +kernel
theorem dX11_drain_37 : decode cX11_drain 37 = .ok (.ldc_w 369, 3) := by decide +kernel
theorem dX11_drain_40 : decode cX11_drain 40 = .ok (.invokespecial 69, 3) := by decide +kernel
theorem dX11_drain_43 : decode cX11_drain 43 = .ok (.athrow, 1) := by decide +kernel
theorem dX11_drain_44 : decode cX11_drain 44 = .ok (.aload 4, 2) := by decide +kernel
theorem dX11_drain_46 : decode cX11_drain 46 = .ok (.iload_n 3, 1) := by decide +kernel
theorem dX11_drain_47 : decode cX11_drain 47 = .ok (.putfield 387, 3) := by decide +kernel
theorem dX11_drain_50 : decode cX11_drain 50 = .ok (.return_, 1) := by decide +kernel
theorem dX11_drained_0 : decode cX11_drained 0 = .ok (.aload_n 0, 1) := by decide +kernel
theorem dX11_drained_1 : decode cX11_drained 1 = .ok (.iload_n 1, 1) := by decide +kernel
theorem dX11_drained_2 : decode cX11_drained 2 = .ok (.iload_n 2, 1) := by decide +kernel
theorem dX11_drained_3 : decode cX11_drained 3 = .ok (.invokevirtual 273, 3) := by decide +kernel
theorem dX11_drained_6 : decode cX11_drained 6 = .ok (.astore_n 3, 1) := by decide +kernel
theorem dX11_drained_7 : decode cX11_drained 7 = .ok (.aload_n 3, 1) := by decide +kernel
theorem dX11_drained_8 : decode cX11_drained 8 = .ok (.ifnonnull 14, 3) := by decide +kernel
theorem dX11_drained_11 : decode cX11_drained 11 = .ok (.new 78, 3) := by decide +kernel
theorem dX11_drained_14 : decode cX11_drained 14 = .ok (.dup, 1) := by decide +kernel
theorem dX11_drained_15 : decode cX11_drained 15 = .ok (.ldc_w 277, 3) := by decide +kernel
theorem dX11_drained_18 : decode cX11_drained 18 = .ok (.invokespecial 82, 3) := by decide +kernel
theorem dX11_drained_21 : decode cX11_drained 21 = .ok (.athrow, 1) := by decide +kernel
theorem dX11_drained_22 : decode cX11_drained 22 = .ok (.aload_n 3, 1) := by decide +kernel
theorem dX11_drained_23 : decode cX11_drained 23 = .ok (.getfield 390, 3) := by decide +kernel
theorem dX11_drained_26 : decode cX11_drained 26 = .ok (.ireturn, 1) := by decide +kernel
theorem dX11_way_0 : decode cX11_way 0 = .ok (.aload_n 0, 1) := by decide +kernel
theorem dX11_way_1 : decode cX11_way 1 = .ok (.iload_n 1, 1) := by decide +kernel
theorem dX11_way_2 : decode cX11_way 2 = .ok (.invokevirtual 144, 3) := by decide +kernel
theorem dX11_way_5 : decode cX11_way 5 = .ok (.astore 4, 2) := by decide +kernel
theorem dX11_way_7 : decode cX11_way 7 = .ok (.aload 4, 2) := by decide +kernel
theorem dX11_way_9 : decode cX11_way 9 = .ok (.ifnull 11, 3) := by decide +kernel
theorem dX11_way_12 : decode cX11_way 12 = .ok (.aload_n 0, 1) := by decide +kernel
theorem dX11_way_13 : decode cX11_way 13 = .ok (.iload_n 2, 1) := by decide +kernel
theorem dX11_way_14 : decode cX11_way 14 = .ok (.invokevirtual 103, 3) := by decide +kernel
theorem dX11_way_17 : decode cX11_way 17 = .ok (.ifnonnull 13, 3) := by decide +kernel
theorem dX11_way_20 : decode cX11_way 20 = .ok (.new 78, 3) := by decide +kernel
theorem dX11_way_23 : decode cX11_way 23 = .ok (.dup, 1) := by decide +kernel
theorem dX11_way_24 : decode cX11_way 24 = .ok (.ldc 147, 2) := by decide +kernel
theorem dX11_way_26 : decode cX11_way 26 = .ok (.invokespecial 82, 3) := by decide +kernel
theorem dX11_way_29 : decode cX11_way 29 = .ok (.athrow, 1) := by decide +kernel
theorem dX11_way_30 : decode cX11_way 30 = .ok (.iload_n 3, 1) := by decide +kernel
theorem dX11_way_31 : decode cX11_way 31 = .ok (.ifCond .lt 8, 3) := by decide +kernel
theorem dX11_way_34 : decode cX11_way 34 = .ok (.iload_n 3, 1) := by decide +kernel
theorem dX11_way_35 : decode cX11_way 35 = .ok (.iconst 2, 1) := by decide +kernel
theorem dX11_way_36 : decode cX11_way 36 = .ok (.if_icmp .le 14, 3) := by decide +kernel
theorem dX11_way_39 : decode cX11_way 39 = .ok (.new 78, 3) := by decide +kernel
theorem dX11_way_42 : decode cX11_way 42 = .ok (.dup, 1) := by decide +kernel
theorem dX11_way_43 : decode cX11_way 43 = .ok (.ldc_w 393, 3) := by decide +kernel
theorem dX11_way_46 : decode cX11_way 46 = .ok (.invokespecial 82, 3) := by decide +kernel
theorem dX11_way_49 : decode cX11_way 49 = .ok (.athrow, 1) := by decide +kernel
theorem dX11_way_50 : decode cX11_way 50 = .ok (.aload 4, 2) := by decide +kernel
theorem dX11_way_52 : decode cX11_way 52 = .ok (.getfield 395, 3) := by decide +kernel
theorem dX11_way_55 : decode cX11_way 55 = .ok (.getfield 399, 3) := by decide +kernel
theorem dX11_way_58 : decode cX11_way 58 = .ok (.astore 5, 2) := by decide +kernel
theorem dX11_way_60 : decode cX11_way 60 = .ok (.iload_n 3, 1) := by decide +kernel
theorem dX11_way_61 : decode cX11_way 61 = .ok (.ifCond .ne 11, 3) := by decide +kernel
theorem dX11_way_64 : decode cX11_way 64 = .ok (.aload 5, 2) := by decide +kernel
theorem dX11_way_66 : decode cX11_way 66 = .ok (.getfield 405, 3) := by decide +kernel
theorem dX11_way_69 : decode cX11_way 69 = .ok (.iload_n 2, 1) := by decide +kernel
theorem dX11_way_70 : decode cX11_way 70 = .ok (.iaload, 1) := by decide +kernel
theorem dX11_way_71 : decode cX11_way 71 = .ok (.ireturn, 1) := by decide +kernel
theorem dX11_way_72 : decode cX11_way 72 = .ok (.iload_n 3, 1) := by decide +kernel
theorem dX11_way_73 : decode cX11_way 73 = .ok (.iconst 1, 1) := by decide +kernel
theorem dX11_way_74 : decode cX11_way 74 = .ok (.if_icmp .ne 13, 3) := by decide +kernel
theorem dX11_way_77 : decode cX11_way 77 = .ok (.aload 5, 2) := by decide +kernel
theorem dX11_way_79 : decode cX11_way 79 = .ok (.getfield 410, 3) := by decide +kernel
theorem dX11_way_82 : decode cX11_way 82 = .ok (.iload_n 2, 1) := by decide +kernel
theorem dX11_way_83 : decode cX11_way 83 = .ok (.iaload, 1) := by decide +kernel
theorem dX11_way_84 : decode cX11_way 84 = .ok (.goto 10, 3) := by decide +kernel
theorem dX11_way_87 : decode cX11_way 87 = .ok (.aload 5, 2) := by decide +kernel
theorem dX11_way_89 : decode cX11_way 89 = .ok (.getfield 413, 3) := by decide +kernel
theorem dX11_way_92 : decode cX11_way 92 = .ok (.iload_n 2, 1) := by decide +kernel
theorem dX11_way_93 : decode cX11_way 93 = .ok (.iaload, 1) := by decide +kernel
theorem dX11_way_94 : decode cX11_way 94 = .ok (.ireturn, 1) := by decide +kernel
theorem dX11_friends_0 : decode cX11_friends 0 = .ok (.aload_n 0, 1) := by decide +kernel
theorem dX11_friends_1 : decode cX11_friends 1 = .ok (.iload_n 1, 1) := by decide +kernel
theorem dX11_friends_2 : decode cX11_friends 2 = .ok (.invokevirtual 144, 3) := by decide +kernel
theorem dX11_friends_5 : decode cX11_friends 5 = .ok (.astore 4, 2) := by decide +kernel
theorem dX11_friends_7 : decode cX11_friends 7 = .ok (.aload 4, 2) := by decide +kernel
theorem dX11_friends_9 : decode cX11_friends 9 = .ok (.ifnull 11, 3) := by decide +kernel
theorem dX11_friends_12 : decode cX11_friends 12 = .ok (.aload_n 0, 1) := by decide +kernel
theorem dX11_friends_13 : decode cX11_friends 13 = .ok (.iload_n 2, 1) := by decide +kernel
theorem dX11_friends_14 : decode cX11_friends 14 = .ok (.invokevirtual 144, 3) := by decide +kernel
theorem dX11_friends_17 : decode cX11_friends 17 = .ok (.ifnonnull 14, 3) := by decide +kernel
theorem dX11_friends_20 : decode cX11_friends 20 = .ok (.new 78, 3) := by decide +kernel
theorem dX11_friends_23 : decode cX11_friends 23 = .ok (.dup, 1) := by decide +kernel
theorem dX11_friends_24 : decode cX11_friends 24 = .ok (.ldc_w 416, 3) := by decide +kernel
theorem dX11_friends_27 : decode cX11_friends 27 = .ok (.invokespecial 82, 3) := by decide +kernel
theorem dX11_friends_30 : decode cX11_friends 30 = .ok (.athrow, 1) := by decide +kernel
theorem dX11_friends_31 : decode cX11_friends 31 = .ok (.aload_n 0, 1) := by decide +kernel
theorem dX11_friends_32 : decode cX11_friends 32 = .ok (.iload_n 3, 1) := by decide +kernel
theorem dX11_friends_33 : decode cX11_friends 33 = .ok (.invokevirtual 103, 3) := by decide +kernel
theorem dX11_friends_36 : decode cX11_friends 36 = .ok (.ifnonnull 13, 3) := by decide +kernel
theorem dX11_friends_39 : decode cX11_friends 39 = .ok (.new 78, 3) := by decide +kernel
theorem dX11_friends_42 : decode cX11_friends 42 = .ok (.dup, 1) := by decide +kernel
theorem dX11_friends_43 : decode cX11_friends 43 = .ok (.ldc 156, 2) := by decide +kernel
theorem dX11_friends_45 : decode cX11_friends 45 = .ok (.invokespecial 82, 3) := by decide +kernel
theorem dX11_friends_48 : decode cX11_friends 48 = .ok (.athrow, 1) := by decide +kernel
theorem dX11_friends_49 : decode cX11_friends 49 = .ok (.aload 4, 2) := by decide +kernel
theorem dX11_friends_51 : decode cX11_friends 51 = .ok (.iload_n 3, 1) := by decide +kernel
theorem dX11_friends_52 : decode cX11_friends 52 = .ok (.invokevirtual 118, 3) := by decide +kernel
theorem dX11_friends_55 : decode cX11_friends 55 = .ok (.astore 5, 2) := by decide +kernel
theorem dX11_friends_57 : decode cX11_friends 57 = .ok (.aload 5, 2) := by decide +kernel
theorem dX11_friends_59 : decode cX11_friends 59 = .ok (.ifnull 25, 3) := by decide +kernel
theorem dX11_friends_62 : decode cX11_friends 62 = .ok (.aload 4, 2) := by decide +kernel
theorem dX11_friends_64 : decode cX11_friends 64 = .ok (.getfield 395, 3) := by decide +kernel
theorem dX11_friends_67 : decode cX11_friends 67 = .ok (.getfield 418, 3) := by decide +kernel
theorem dX11_friends_70 : decode cX11_friends 70 = .ok (.aload 5, 2) := by decide +kernel
theorem dX11_friends_72 : decode cX11_friends 72 = .ok (.iload_n 2, 1) := by decide +kernel
theorem dX11_friends_73 : decode cX11_friends 73 = .ok (.invokestatic 422, 3) := by decide +kernel
theorem dX11_friends_76 : decode cX11_friends 76 = .ok (.baload, 1) := by decide +kernel
theorem dX11_friends_77 : decode cX11_friends 77 = .ok (.ifCond .eq 7, 3) := by decide +kernel
theorem dX11_friends_80 : decode cX11_friends 80 = .ok (.iconst 1, 1) := by decide +kernel
theorem dX11_friends_81 : decode cX11_friends 81 = .ok (.goto 4, 3) := by decide +kernel
theorem dX11_friends_84 : decode cX11_friends 84 = .ok (.iconst 0, 1) := by decide +kernel
theorem dX11_friends_85 : decode cX11_friends 85 = .ok (.ireturn, 1) := by decide +kernel
theorem dX11_advert_0 : decode cX11_advert 0 = .ok (.aload_n 0, 1) := by decide +kernel
theorem dX11_advert_1 : decode cX11_advert 1 = .ok (.iload_n 1, 1) := by decide +kernel
theorem dX11_advert_2 : decode cX11_advert 2 = .ok (.invokevirtual 144, 3) := by decide +kernel
theorem dX11_advert_5 : decode cX11_advert 5 = .ok (.astore_n 3, 1) := by decide +kernel
theorem dX11_advert_6 : decode cX11_advert 6 = .ok (.aload_n 3, 1) := by decide +kernel
theorem dX11_advert_7 : decode cX11_advert 7 = .ok (.ifnull 11, 3) := by decide +kernel
theorem dX11_advert_10 : decode cX11_advert 10 = .ok (.aload_n 0, 1) := by decide +kernel
theorem dX11_advert_11 : decode cX11_advert 11 = .ok (.iload_n 2, 1) := by decide +kernel
theorem dX11_advert_12 : decode cX11_advert 12 = .ok (.invokevirtual 144, 3) := by decide +kernel
theorem dX11_advert_15 : decode cX11_advert 15 = .ok (.ifnonnull 14, 3) := by decide +kernel
theorem dX11_advert_18 : decode cX11_advert 18 = .ok (.new 78, 3) := by decide +kernel
theorem dX11_advert_21 : decode cX11_advert 21 = .ok (.dup, 1) := by decide +kernel
theorem dX11_advert_22 : decode cX11_advert 22 = .ok (.ldc_w 416, 3) := by decide +kernel
theorem dX11_advert_25 : decode cX11_advert 25 = .ok (.invokespecial 82, 3) := by decide +kernel
theorem dX11_advert_28 : decode cX11_advert 28 = .ok (.athrow, 1) := by decide +kernel
theorem dX11_advert_29 : decode cX11_advert 29 = .ok (.aload_n 3, 1) := by decide +kernel
theorem dX11_advert_30 : decode cX11_advert 30 = .ok (.getfield 395, 3) := by decide +kernel
theorem dX11_advert_33 : decode cX11_advert 33 = .ok (.getfield 399, 3) := by decide +kernel
theorem dX11_advert_36 : decode cX11_advert 36 = .ok (.getfield 426, 3) := by decide +kernel
theorem dX11_advert_39 : decode cX11_advert 39 = .ok (.iload_n 2, 1) := by decide +kernel
theorem dX11_advert_40 : decode cX11_advert 40 = .ok (.iaload, 1) := by decide +kernel
theorem dX11_advert_41 : decode cX11_advert 41 = .ok (.istore 4, 2) := by decide +kernel
theorem dX11_advert_43 : decode cX11_advert 43 = .ok (.iload 4, 2) := by decide +kernel
theorem dX11_advert_45 : decode cX11_advert 45 = .ok (.ifCond .ne 7, 3) := by decide +kernel
theorem dX11_advert_48 : decode cX11_advert 48 = .ok (.iconst (-1), 1) := by decide +kernel
theorem dX11_advert_49 : decode cX11_advert 49 = .ok (.goto 5, 3) := by decide +kernel
theorem dX11_advert_52 : decode cX11_advert 52 = .ok (.iload 4, 2) := by decide +kernel
theorem dX11_advert_54 : decode cX11_advert 54 = .ok (.ireturn, 1) := by decide +kernel
theorem dX11_count_0 : decode cX11_count 0 = .ok (.iload_n 2, 1) := by decide +kernel
theorem dX11_count_1 : decode cX11_count 1 = .ok (.ifCond .lt 9, 3) := by decide +kernel
theorem dX11_count_4 : decode cX11_count 4 = .ok (.iload_n 2, 1) := by decide +kernel
theorem dX11_count_5 : decode cX11_count 5 = .ok (.bipush 7, 2) := by decide +kernel
theorem dX11_count_7 : decode cX11_count 7 = .ok (.if_icmp .le 14, 3) := by decide +kernel
theorem dX11_count_10 : decode cX11_count 10 = .ok (.new 78, 3) := by decide +kernel
theorem dX11_count_13 : decode cX11_count 13 = .ok (.dup, 1) := by decide +kernel
theorem dX11_count_14 : decode cX11_count 14 = .ok (.ldc_w 429, 3) := by decide +kernel
theorem dX11_count_17 : decode cX11_count 17 = .ok (.invokespecial 82, 3) := by decide +kernel
theorem dX11_count_20 : decode cX11_count 20 = .ok (.athrow, 1) := by decide +kernel
theorem dX11_count_21 : decode cX11_count 21 = .ok (.iload_n 2, 1) := by decide +kernel
theorem dX11_count_22 : decode cX11_count 22 = .ok (.iconst 2, 1) := by decide +kernel
theorem dX11_count_23 : decode cX11_count 23 = .ok (.if_icmp .ge 39, 3) := by decide +kernel
theorem dX11_count_26 : decode cX11_count 26 = .ok (.aload_n 0, 1) := by decide +kernel
theorem dX11_count_27 : decode cX11_count 27 = .ok (.iload_n 1, 1) := by decide +kernel
theorem dX11_count_28 : decode cX11_count 28 = .ok (.invokevirtual 103, 3) := by decide +kernel
theorem dX11_count_31 : decode cX11_count 31 = .ok (.astore_n 3, 1) := by decide +kernel
theorem dX11_count_32 : decode cX11_count 32 = .ok (.aload_n 3, 1) := by decide +kernel
theorem dX11_count_33 : decode cX11_count 33 = .ok (.ifnonnull 13, 3) := by decide +kernel
theorem dX11_count_36 : decode cX11_count 36 = .ok (.new 78, 3) := by decide +kernel
theorem dX11_count_39 : decode cX11_count 39 = .ok (.dup, 1) := by decide +kernel
theorem dX11_count_40 : decode cX11_count 40 = .ok (.ldc 156, 2) := by decide +kernel
theorem dX11_count_42 : decode cX11_count 42 = .ok (.invokespecial 82, 3) := by decide +kernel
theorem dX11_count_45 : decode cX11_count 45 = .ok (.athrow, 1) := by decide +kernel
theorem dX11_count_46 : decode cX11_count 46 = .ok (.iload_n 2, 1) := by decide +kernel
theorem dX11_count_47 : decode cX11_count 47 = .ok (.ifCond .ne 10, 3) := by decide +kernel
theorem dX11_count_50 : decode cX11_count 50 = .ok (.aload_n 3, 1) := by decide +kernel
theorem dX11_count_51 : decode cX11_count 51 = .ok (.getfield 431, 3) := by decide +kernel
theorem dX11_count_54 : decode cX11_count 54 = .ok (.goto 7, 3) := by decide +kernel
theorem dX11_count_57 : decode cX11_count 57 = .ok (.aload_n 3, 1) := by decide +kernel
theorem dX11_count_58 : decode cX11_count 58 = .ok (.getfield 434, 3) := by decide +kernel
theorem dX11_count_61 : decode cX11_count 61 = .ok (.ireturn, 1) := by decide +kernel
theorem dX11_count_62 : decode cX11_count 62 = .ok (.aload_n 0, 1) := by decide +kernel
theorem dX11_count_63 : decode cX11_count 63 = .ok (.iload_n 1, 1) := by decide +kernel
theorem dX11_count_64 : decode cX11_count 64 = .ok (.invokevirtual 99, 3) := by decide +kernel
theorem dX11_count_67 : decode cX11_count 67 = .ok (.astore_n 3, 1) := by decide +kernel
theorem dX11_count_68 : decode cX11_count 68 = .ok (.aload_n 3, 1) := by decide +kernel
theorem dX11_count_69 : decode cX11_count 69 = .ok (.ifnonnull 14, 3) := by decide +kernel
theorem dX11_count_72 : decode cX11_count 72 = .ok (.new 78, 3) := by decide +kernel
theorem dX11_count_75 : decode cX11_count 75 = .ok (.dup, 1) := by decide +kernel
theorem dX11_count_76 : decode cX11_count 76 = .ok (.ldc_w 437, 3) := by decide +kernel
theorem dX11_count_79 : decode cX11_count 79 = .ok (.invokespecial 82, 3) := by decide +kernel
theorem dX11_count_82 : decode cX11_count 82 = .ok (.athrow, 1) := by decide +kernel
theorem dX11_count_83 : decode cX11_count 83 = .ok (.aload_n 3, 1) := by decide +kernel
theorem dX11_count_84 : decode cX11_count 84 = .ok (.getfield 439, 3) := by decide +kernel
theorem dX11_count_87 : decode cX11_count 87 = .ok (.iload_n 2, 1) := by decide +kernel
theorem dX11_count_88 : decode cX11_count 88 = .ok (.iaload, 1) := by decide +kernel
theorem dX11_count_89 : decode cX11_count 89 = .ok (.ireturn, 1) := by decide +kernel
theorem dX11_underWay_0 : decode cX11_underWay 0 = .ok (.aload_n 0, 1) := by decide +kernel
theorem dX11_underWay_1 : decode cX11_underWay 1 = .ok (.getfield 442, 3) := by decide +kernel
theorem dX11_underWay_4 : decode cX11_underWay 4 = .ok (.ireturn, 1) := by decide +kernel
theorem dX11_time_0 : decode cX11_time 0 = .ok (.aload_n 0, 1) := by decide +kernel
theorem dX11_time_1 : decode cX11_time 1 = .ok (.getfield 176, 3) := by decide +kernel
theorem dX11_time_4 : decode cX11_time 4 = .ok (.ireturn, 1) := by decide +kernel
theorem dX11_shouldCost_0 : decode cX11_shouldCost 0 = .ok (.aload_n 0, 1) := by decide +kernel
theorem dX11_shouldCost_1 : decode cX11_shouldCost 1 = .ok (.iload_n 1, 1) := by decide +kernel
theorem dX11_shouldCost_2 : decode cX11_shouldCost 2 = .ok (.invokevirtual 144, 3) := by decide +kernel
theorem dX11_shouldCost_5 : decode cX11_shouldCost 5 = .ok (.astore_n 3, 1) := by decide +kernel
theorem dX11_shouldCost_6 : decode cX11_shouldCost 6 = .ok (.aload_n 0, 1) := by decide +kernel
theorem dX11_shouldCost_7 : decode cX11_shouldCost 7 = .ok (.iload_n 2, 1) := by decide +kernel
theorem dX11_shouldCost_8 : decode cX11_shouldCost 8 = .ok (.invokevirtual 103, 3) := by decide +kernel
theorem dX11_shouldCost_11 : decode cX11_shouldCost 11 = .ok (.astore 4, 2) := by decide +kernel
theorem dX11_shouldCost_13 : decode cX11_shouldCost 13 = .ok (.aload_n 3, 1) := by decide +kernel
theorem dX11_shouldCost_14 : decode cX11_shouldCost 14 = .ok (.ifnull 8, 3) := by decide +kernel
theorem dX11_shouldCost_17 : decode cX11_shouldCost 17 = .ok (.aload 4, 2) := by decide +kernel
theorem dX11_shouldCost_19 : decode cX11_shouldCost 19 = .ok (.ifnonnull 13, 3) := by decide +kernel
theorem dX11_shouldCost_22 : decode cX11_shouldCost 22 = .ok (.new 78, 3) := by decide +kernel
theorem dX11_shouldCost_25 : decode cX11_shouldCost 25 = .ok (.dup, 1) := by decide +kernel
theorem dX11_shouldCost_26 : decode cX11_shouldCost 26 = .ok (.ldc 147, 2) := by decide +kernel
theorem dX11_shouldCost_28 : decode cX11_shouldCost 28 = .ok (.invokespecial 82, 3) := by decide +kernel
theorem dX11_shouldCost_31 : decode cX11_shouldCost 31 = .ok (.athrow, 1) := by decide +kernel
theorem dX11_shouldCost_32 : decode cX11_shouldCost 32 = .ok (.aload_n 0, 1) := by decide +kernel
theorem dX11_shouldCost_33 : decode cX11_shouldCost 33 = .ok (.aload_n 3, 1) := by decide +kernel
theorem dX11_shouldCost_34 : decode cX11_shouldCost 34 = .ok (.aload 4, 2) := by decide +kernel
theorem dX11_shouldCost_36 : decode cX11_shouldCost 36 = .ok (.invokevirtual 445, 3) := by decide +kernel
theorem dX11_shouldCost_39 : decode cX11_shouldCost 39 = .ok (.ireturn, 1) := by decide +kernel
theorem dX11_bound_0 : decode cX11_bound 0 = .ok (.aload_n 0, 1) := by decide +kernel
theorem dX11_bound_1 : decode cX11_bound 1 = .ok (.invokevirtual 449, 3) := by decide +kernel
theorem dX11_bound_4 : decode cX11_bound 4 = .ok (.ireturn, 1) := by decide +kernel
theorem dX11_strays_0 : decode cX11_strays 0 = .ok (.aload_n 0, 1) := by decide +kernel
theorem dX11_strays_1 : decode cX11_strays 1 = .ok (.getfield 452, 3) := by decide +kernel
theorem dX11_strays_4 : decode cX11_strays 4 = .ok (.ireturn, 1) := by decide +kernel
theorem dX11_overdue_0 : decode cX11_overdue 0 = .ok (.aload_n 0, 1) := by decide +kernel
theorem dX11_overdue_1 : decode cX11_overdue 1 = .ok (.getfield 176, 3) := by decide +kernel
theorem dX11_overdue_4 : decode cX11_overdue 4 = .ok (.aload_n 0, 1) := by decide +kernel
theorem dX11_overdue_5 : decode cX11_overdue 5 = .ok (.getfield 455, 3) := by decide +kernel
theorem dX11_overdue_8 : decode cX11_overdue 8 = .ok (.isub, 1) := by decide +kernel
theorem dX11_overdue_9 : decode cX11_overdue 9 = .ok (.aload_n 0, 1) := by decide +kernel
theorem dX11_overdue_10 : decode cX11_overdue 10 = .ok (.invokevirtual 449, 3) := by decide +kernel
theorem dX11_overdue_13 : decode cX11_overdue 13 = .ok (.if_icmp .ge 5, 3) := by decide +kernel
theorem dX11_overdue_16 : decode cX11_overdue 16 = .ok (.iconst 0, 1) := by decide +kernel
theorem dX11_overdue_17 : decode cX11_overdue 17 = .ok (.ireturn, 1) := by decide +kernel
theorem dX11_overdue_18 : decode cX11_overdue 18 = .ok (.iconst 0, 1) := by decide +kernel
theorem dX11_overdue_19 : decode cX11_overdue 19 = .ok (.istore_n 1, 1) := by decide +kernel
theorem dX11_overdue_20 : decode cX11_overdue 20 = .ok (.iconst 0, 1) := by decide +kernel
theorem dX11_overdue_21 : decode cX11_overdue 21 = .ok (.istore_n 2, 1) := by decide +kernel
theorem dX11_overdue_22 : decode cX11_overdue 22 = .ok (.iload_n 2, 1) := by decide +kernel
theorem dX11_overdue_23 : decode cX11_overdue 23 = .ok (.aload_n 0, 1) := by decide +kernel
theorem dX11_overdue_24 : decode cX11_overdue 24 = .ok (.getfield 61, 3) := by decide +kernel
theorem dX11_overdue_27 : decode cX11_overdue 27 = .ok (.if_icmp .ge 42, 3) := by decide +kernel
theorem dX11_overdue_30 : decode cX11_overdue 30 = .ok (.aload_n 0, 1) := by decide +kernel
theorem dX11_overdue_31 : decode cX11_overdue 31 = .ok (.getfield 17, 3) := by decide +kernel
theorem dX11_overdue_34 : decode cX11_overdue 34 = .ok (.iload_n 2, 1) := by decide +kernel
theorem dX11_overdue_35 : decode cX11_overdue 35 = .ok (.aaload, 1) := by decide +kernel
theorem dX11_overdue_36 : decode cX11_overdue 36 = .ok (.astore_n 3, 1) := by decide +kernel
theorem dX11_overdue_37 : decode cX11_overdue 37 = .ok (.aload_n 3, 1) := by decide +kernel
theorem dX11_overdue_38 : decode cX11_overdue 38 = .ok (.getfield 109, 3) := by decide +kernel
theorem dX11_overdue_41 : decode cX11_overdue 41 = .ok (.ifCond .eq 14, 3) := by decide +kernel
theorem dX11_overdue_44 : decode cX11_overdue 44 = .ok (.iload_n 1, 1) := by decide +kernel
theorem dX11_overdue_45 : decode cX11_overdue 45 = .ok (.aload_n 0, 1) := by decide +kernel
theorem dX11_overdue_46 : decode cX11_overdue 46 = .ok (.aload_n 3, 1) := by decide +kernel
theorem dX11_overdue_47 : decode cX11_overdue 47 = .ok (.invokevirtual 458, 3) := by decide +kernel
theorem dX11_overdue_50 : decode cX11_overdue 50 = .ok (.iadd, 1) := by decide +kernel
theorem dX11_overdue_51 : decode cX11_overdue 51 = .ok (.istore_n 1, 1) := by decide +kernel
theorem dX11_overdue_52 : decode cX11_overdue 52 = .ok (.goto 11, 3) := by decide +kernel
theorem dX11_overdue_55 : decode cX11_overdue 55 = .ok (.iload_n 1, 1) := by decide +kernel
theorem dX11_overdue_56 : decode cX11_overdue 56 = .ok (.aload_n 0, 1) := by decide +kernel
theorem dX11_overdue_57 : decode cX11_overdue 57 = .ok (.aload_n 3, 1) := by decide +kernel
theorem dX11_overdue_58 : decode cX11_overdue 58 = .ok (.invokevirtual 461, 3) := by decide +kernel
theorem dX11_overdue_61 : decode cX11_overdue 61 = .ok (.iadd, 1) := by decide +kernel
theorem dX11_overdue_62 : decode cX11_overdue 62 = .ok (.istore_n 1, 1) := by decide +kernel
theorem dX11_overdue_63 : decode cX11_overdue 63 = .ok (.iinc 2 1, 3) := by decide +kernel
theorem dX11_overdue_66 : decode cX11_overdue 66 = .ok (.goto (-44), 3) := by decide +kernel
theorem dX11_overdue_69 : decode cX11_overdue 69 = .ok (.iload_n 1, 1) := by decide +kernel
theorem dX11_overdue_70 : decode cX11_overdue 70 = .ok (.ireturn, 1) := by decide +kernel
theorem dX11_calmBound_0 : decode cX11_calmBound 0 = .ok (.iconst 1, 1) := by decide +kernel
theorem dX11_calmBound_1 : decode cX11_calmBound 1 = .ok (.istore_n 1, 1) := by decide +kernel
theorem dX11_calmBound_2 : decode cX11_calmBound 2 = .ok (.iconst 0, 1) := by decide +kernel
theorem dX11_calmBound_3 : decode cX11_calmBound 3 = .ok (.istore_n 2, 1) := by decide +kernel
theorem dX11_calmBound_4 : decode cX11_calmBound 4 = .ok (.iload_n 2, 1) := by decide +kernel
theorem dX11_calmBound_5 : decode cX11_calmBound 5 = .ok (.aload_n 0, 1) := by decide +kernel
theorem dX11_calmBound_6 : decode cX11_calmBound 6 = .ok (.getfield 85, 3) := by decide +kernel
theorem dX11_calmBound_9 : decode cX11_calmBound 9 = .ok (.if_icmp .ge 23, 3) := by decide +kernel
theorem dX11_calmBound_12 : decode cX11_calmBound 12 = .ok (.iload_n 1, 1) := by decide +kernel
theorem dX11_calmBound_13 : decode cX11_calmBound 13 = .ok (.aload_n 0, 1) := by decide +kernel
theorem dX11_calmBound_14 : decode cX11_calmBound 14 = .ok (.getfield 11, 3) := by decide +kernel
theorem dX11_calmBound_17 : decode cX11_calmBound 17 = .ok (.iload_n 2, 1) := by decide +kernel
theorem dX11_calmBound_18 : decode cX11_calmBound 18 = .ok (.aaload, 1) := by decide +kernel
theorem dX11_calmBound_19 : decode cX11_calmBound 19 = .ok (.getfield 93, 3) := by decide +kernel
theorem dX11_calmBound_22 : decode cX11_calmBound 22 = .ok (.invokestatic 464, 3) := by decide +kernel
theorem dX11_calmBound_25 : decode cX11_calmBound 25 = .ok (.istore_n 1, 1) := by decide +kernel
theorem dX11_calmBound_26 : decode cX11_calmBound 26 = .ok (.iinc 2 1, 3) := by decide +kernel
theorem dX11_calmBound_29 : decode cX11_calmBound 29 = .ok (.goto (-25), 3) := by decide +kernel
theorem dX11_calmBound_32 : decode cX11_calmBound 32 = .ok (.bipush 100, 2) := by decide +kernel
theorem dX11_calmBound_34 : decode cX11_calmBound 34 = .ok (.iconst 4, 1) := by decide +kernel
theorem dX11_calmBound_35 : decode cX11_calmBound 35 = .ok (.iload_n 1, 1) := by decide +kernel
theorem dX11_calmBound_36 : decode cX11_calmBound 36 = .ok (.imul, 1) := by decide +kernel
theorem dX11_calmBound_37 : decode cX11_calmBound 37 = .ok (.iadd, 1) := by decide +kernel
theorem dX11_calmBound_38 : decode cX11_calmBound 38 = .ok (.iconst 2, 1) := by decide +kernel
theorem dX11_calmBound_39 : decode cX11_calmBound 39 = .ok (.bipush 11, 2) := by decide +kernel
theorem dX11_calmBound_41 : decode cX11_calmBound 41 = .ok (.aload_n 0, 1) := by decide +kernel
theorem dX11_calmBound_42 : decode cX11_calmBound 42 = .ok (.getfield 61, 3) := by decide +kernel
theorem dX11_calmBound_45 : decode cX11_calmBound 45 = .ok (.bipush 17, 2) := by decide +kernel
theorem dX11_calmBound_47 : decode cX11_calmBound 47 = .ok (.iconst 3, 1) := by decide +kernel
theorem dX11_calmBound_48 : decode cX11_calmBound 48 = .ok (.iload_n 1, 1) := by decide +kernel
theorem dX11_calmBound_49 : decode cX11_calmBound 49 = .ok (.imul, 1) := by decide +kernel
theorem dX11_calmBound_50 : decode cX11_calmBound 50 = .ok (.iadd, 1) := by decide +kernel
theorem dX11_calmBound_51 : decode cX11_calmBound 51 = .ok (.imul, 1) := by decide +kernel
theorem dX11_calmBound_52 : decode cX11_calmBound 52 = .ok (.iadd, 1) := by decide +kernel
theorem dX11_calmBound_53 : decode cX11_calmBound 53 = .ok (.imul, 1) := by decide +kernel
theorem dX11_calmBound_54 : decode cX11_calmBound 54 = .ok (.iadd, 1) := by decide +kernel
theorem dX11_calmBound_55 : decode cX11_calmBound 55 = .ok (.bipush 40, 2) := by decide +kernel
theorem dX11_calmBound_57 : decode cX11_calmBound 57 = .ok (.sipush 1200, 3) := by decide +kernel
theorem dX11_calmBound_60 : decode cX11_calmBound 60 = .ok (.bipush 6, 2) := by decide +kernel
theorem dX11_calmBound_62 : decode cX11_calmBound 62 = .ok (.aload_n 0, 1) := by decide +kernel
theorem dX11_calmBound_63 : decode cX11_calmBound 63 = .ok (.getfield 61, 3) := by decide +kernel
theorem dX11_calmBound_66 : decode cX11_calmBound 66 = .ok (.iconst 2, 1) := by decide +kernel
theorem dX11_calmBound_67 : decode cX11_calmBound 67 = .ok (.iadd, 1) := by decide +kernel
theorem dX11_calmBound_68 : decode cX11_calmBound 68 = .ok (.imul, 1) := by decide +kernel
theorem dX11_calmBound_69 : decode cX11_calmBound 69 = .ok (.iload_n 1, 1) := by decide +kernel
theorem dX11_calmBound_70 : decode cX11_calmBound 70 = .ok (.imul, 1) := by decide +kernel
theorem dX11_calmBound_71 : decode cX11_calmBound 71 = .ok (.iadd, 1) := by decide +kernel
theorem dX11_calmBound_72 : decode cX11_calmBound 72 = .ok (.imul, 1) := by decide +kernel
theorem dX11_calmBound_73 : decode cX11_calmBound 73 = .ok (.iadd, 1) := by decide +kernel
theorem dX11_calmBound_74 : decode cX11_calmBound 74 = .ok (.ireturn, 1) := by decide +kernel
theorem dX11_wrongWays_0 : decode cX11_wrongWays 0 = .ok (.iconst 0, 1) := by decide +kernel
theorem dX11_wrongWays_1 : decode cX11_wrongWays 1 = .ok (.istore_n 2, 1) := by decide +kernel
theorem dX11_wrongWays_2 : decode cX11_wrongWays 2 = .ok (.iconst 0, 1) := by decide +kernel
theorem dX11_wrongWays_3 : decode cX11_wrongWays 3 = .ok (.istore_n 3, 1) := by decide +kernel
theorem dX11_wrongWays_4 : decode cX11_wrongWays 4 = .ok (.iload_n 3, 1) := by decide +kernel
theorem dX11_wrongWays_5 : decode cX11_wrongWays 5 = .ok (.aload_n 0, 1) := by decide +kernel
theorem dX11_wrongWays_6 : decode cX11_wrongWays 6 = .ok (.getfield 85, 3) := by decide +kernel
theorem dX11_wrongWays_9 : decode cX11_wrongWays 9 = .ok (.if_icmp .ge 38, 3) := by decide +kernel
theorem dX11_wrongWays_12 : decode cX11_wrongWays 12 = .ok (.aload_n 1, 1) := by decide +kernel
theorem dX11_wrongWays_13 : decode cX11_wrongWays 13 = .ok (.getfield 395, 3) := by decide +kernel
theorem dX11_wrongWays_16 : decode cX11_wrongWays 16 = .ok (.getfield 399, 3) := by decide +kernel
theorem dX11_wrongWays_19 : decode cX11_wrongWays 19 = .ok (.getfield 405, 3) := by decide +kernel
theorem dX11_wrongWays_22 : decode cX11_wrongWays 22 = .ok (.iload_n 3, 1) := by decide +kernel
theorem dX11_wrongWays_23 : decode cX11_wrongWays 23 = .ok (.iaload, 1) := by decide +kernel
theorem dX11_wrongWays_24 : decode cX11_wrongWays 24 = .ok (.aload_n 0, 1) := by decide +kernel
theorem dX11_wrongWays_25 : decode cX11_wrongWays 25 = .ok (.aload_n 1, 1) := by decide +kernel
theorem dX11_wrongWays_26 : decode cX11_wrongWays 26 = .ok (.aload_n 0, 1) := by decide +kernel
theorem dX11_wrongWays_27 : decode cX11_wrongWays 27 = .ok (.getfield 11, 3) := by decide +kernel
theorem dX11_wrongWays_30 : decode cX11_wrongWays 30 = .ok (.iload_n 3, 1) := by decide +kernel
theorem dX11_wrongWays_31 : decode cX11_wrongWays 31 = .ok (.aaload, 1) := by decide +kernel
theorem dX11_wrongWays_32 : decode cX11_wrongWays 32 = .ok (.invokevirtual 445, 3) := by decide +kernel
theorem dX11_wrongWays_35 : decode cX11_wrongWays 35 = .ok (.if_icmp .eq 6, 3) := by decide +kernel
theorem dX11_wrongWays_38 : decode cX11_wrongWays 38 = .ok (.iinc 2 1, 3) := by decide +kernel
theorem dX11_wrongWays_41 : decode cX11_wrongWays 41 = .ok (.iinc 3 1, 3) := by decide +kernel
theorem dX11_wrongWays_44 : decode cX11_wrongWays 44 = .ok (.goto (-40), 3) := by decide +kernel
theorem dX11_wrongWays_47 : decode cX11_wrongWays 47 = .ok (.iload_n 2, 1) := by decide +kernel
theorem dX11_wrongWays_48 : decode cX11_wrongWays 48 = .ok (.ireturn, 1) := by decide +kernel
theorem dX11_stuckEnds_0 : decode cX11_stuckEnds 0 = .ok (.iconst 0, 1) := by decide +kernel
theorem dX11_stuckEnds_1 : decode cX11_stuckEnds 1 = .ok (.istore_n 2, 1) := by decide +kernel
theorem dX11_stuckEnds_2 : decode cX11_stuckEnds 2 = .ok (.iconst 0, 1) := by decide +kernel
theorem dX11_stuckEnds_3 : decode cX11_stuckEnds 3 = .ok (.istore_n 3, 1) := by decide +kernel
theorem dX11_stuckEnds_4 : decode cX11_stuckEnds 4 = .ok (.iload_n 3, 1) := by decide +kernel
theorem dX11_stuckEnds_5 : decode cX11_stuckEnds 5 = .ok (.bipush 6, 2) := by decide +kernel
theorem dX11_stuckEnds_7 : decode cX11_stuckEnds 7 = .ok (.if_icmp .ge 84, 3) := by decide +kernel
theorem dX11_stuckEnds_10 : decode cX11_stuckEnds 10 = .ok (.aload_n 1, 1) := by decide +kernel
theorem dX11_stuckEnds_11 : decode cX11_stuckEnds 11 = .ok (.getfield 220, 3) := by decide +kernel
theorem dX11_stuckEnds_14 : decode cX11_stuckEnds 14 = .ok (.iload_n 3, 1) := by decide +kernel
theorem dX11_stuckEnds_15 : decode cX11_stuckEnds 15 = .ok (.aaload, 1) := by decide +kernel
theorem dX11_stuckEnds_16 : decode cX11_stuckEnds 16 = .ok (.astore 4, 2) := by decide +kernel
theorem dX11_stuckEnds_18 : decode cX11_stuckEnds 18 = .ok (.aload 4, 2) := by decide +kernel
theorem dX11_stuckEnds_20 : decode cX11_stuckEnds 20 = .ok (.getfield 279, 3) := by decide +kernel
theorem dX11_stuckEnds_23 : decode cX11_stuckEnds 23 = .ok (.iconst 2, 1) := by decide +kernel
theorem dX11_stuckEnds_24 : decode cX11_stuckEnds 24 = .ok (.if_icmp .ne 61, 3) := by decide +kernel
theorem dX11_stuckEnds_27 : decode cX11_stuckEnds 27 = .ok (.aload 4, 2) := by decide +kernel
theorem dX11_stuckEnds_29 : decode cX11_stuckEnds 29 = .ok (.getfield 253, 3) := by decide +kernel
theorem dX11_stuckEnds_32 : decode cX11_stuckEnds 32 = .ok (.getfield 290, 3) := by decide +kernel
theorem dX11_stuckEnds_35 : decode cX11_stuckEnds 35 = .ok (.iconst 4, 1) := by decide +kernel
theorem dX11_stuckEnds_36 : decode cX11_stuckEnds 36 = .ok (.if_icmp .lt 49, 3) := by decide +kernel
theorem dX11_stuckEnds_39 : decode cX11_stuckEnds 39 = .ok (.aload 4, 2) := by decide +kernel
theorem dX11_stuckEnds_41 : decode cX11_stuckEnds 41 = .ok (.getfield 253, 3) := by decide +kernel
theorem dX11_stuckEnds_44 : decode cX11_stuckEnds 44 = .ok (.getfield 290, 3) := by decide +kernel
theorem dX11_stuckEnds_47 : decode cX11_stuckEnds 47 = .ok (.bipush 10, 2) := by decide +kernel
theorem dX11_stuckEnds_49 : decode cX11_stuckEnds 49 = .ok (.if_icmp .le 6, 3) := by decide +kernel
theorem dX11_stuckEnds_52 : decode cX11_stuckEnds 52 = .ok (.goto 33, 3) := by decide +kernel
theorem dX11_stuckEnds_55 : decode cX11_stuckEnds 55 = .ok (.aload 4, 2) := by decide +kernel
theorem dX11_stuckEnds_57 : decode cX11_stuckEnds 57 = .ok (.getfield 253, 3) := by decide +kernel
theorem dX11_stuckEnds_60 : decode cX11_stuckEnds 60 = .ok (.getfield 301, 3) := by decide +kernel
theorem dX11_stuckEnds_63 : decode cX11_stuckEnds 63 = .ok (.getfield 305, 3) := by decide +kernel
theorem dX11_stuckEnds_66 : decode cX11_stuckEnds 66 = .ok (.ifCond .le 19, 3) := by decide +kernel
theorem dX11_stuckEnds_69 : decode cX11_stuckEnds 69 = .ok (.aload_n 0, 1) := by decide +kernel
theorem dX11_stuckEnds_70 : decode cX11_stuckEnds 70 = .ok (.aload_n 1, 1) := by decide +kernel
theorem dX11_stuckEnds_71 : decode cX11_stuckEnds 71 = .ok (.aload 4, 2) := by decide +kernel
theorem dX11_stuckEnds_73 : decode cX11_stuckEnds 73 = .ok (.getfield 384, 3) := by decide +kernel
theorem dX11_stuckEnds_76 : decode cX11_stuckEnds 76 = .ok (.invokevirtual 467, 3) := by decide +kernel
theorem dX11_stuckEnds_79 : decode cX11_stuckEnds 79 = .ok (.ifCond .eq 6, 3) := by decide +kernel
theorem dX11_stuckEnds_82 : decode cX11_stuckEnds 82 = .ok (.iinc 2 1, 3) := by decide +kernel
theorem dX11_stuckEnds_85 : decode cX11_stuckEnds 85 = .ok (.iinc 3 1, 3) := by decide +kernel
theorem dX11_stuckEnds_88 : decode cX11_stuckEnds 88 = .ok (.goto (-84), 3) := by decide +kernel
theorem dX11_stuckEnds_91 : decode cX11_stuckEnds 91 = .ok (.iload_n 2, 1) := by decide +kernel
theorem dX11_stuckEnds_92 : decode cX11_stuckEnds 92 = .ok (.ireturn, 1) := by decide +kernel
theorem dX11_joinedWith_0 : decode cX11_joinedWith 0 = .ok (.aload_n 1, 1) := by decide +kernel
theorem dX11_joinedWith_1 : decode cX11_joinedWith 1 = .ok (.getfield 134, 3) := by decide +kernel
theorem dX11_joinedWith_4 : decode cX11_joinedWith 4 = .ok (.iconst 0, 1) := by decide +kernel
theorem dX11_joinedWith_5 : decode cX11_joinedWith 5 = .ok (.aaload, 1) := by decide +kernel
theorem dX11_joinedWith_6 : decode cX11_joinedWith 6 = .ok (.astore_n 3, 1) := by decide +kernel
theorem dX11_joinedWith_7 : decode cX11_joinedWith 7 = .ok (.aload_n 0, 1) := by decide +kernel
theorem dX11_joinedWith_8 : decode cX11_joinedWith 8 = .ok (.iload_n 2, 1) := by decide +kernel
theorem dX11_joinedWith_9 : decode cX11_joinedWith 9 = .ok (.invokevirtual 471, 3) := by decide +kernel
theorem dX11_joinedWith_12 : decode cX11_joinedWith 12 = .ok (.astore 4, 2) := by decide +kernel
theorem dX11_joinedWith_14 : decode cX11_joinedWith 14 = .ok (.aload_n 3, 1) := by decide +kernel
theorem dX11_joinedWith_15 : decode cX11_joinedWith 15 = .ok (.ifnull 29, 3) := by decide +kernel
theorem dX11_joinedWith_18 : decode cX11_joinedWith 18 = .ok (.aload 4, 2) := by decide +kernel
theorem dX11_joinedWith_20 : decode cX11_joinedWith 20 = .ok (.ifnull 24, 3) := by decide +kernel
theorem dX11_joinedWith_23 : decode cX11_joinedWith 23 = .ok (.aload 4, 2) := by decide +kernel
theorem dX11_joinedWith_25 : decode cX11_joinedWith 25 = .ok (.getfield 474, 3) := by decide +kernel
theorem dX11_joinedWith_28 : decode cX11_joinedWith 28 = .ok (.getfield 109, 3) := by decide +kernel
theorem dX11_joinedWith_31 : decode cX11_joinedWith 31 = .ok (.ifCond .ne 13, 3) := by decide +kernel
theorem dX11_joinedWith_34 : decode cX11_joinedWith 34 = .ok (.aload_n 3, 1) := by decide +kernel
theorem dX11_joinedWith_35 : decode cX11_joinedWith 35 = .ok (.getfield 261, 3) := by decide +kernel
theorem dX11_joinedWith_38 : decode cX11_joinedWith 38 = .ok (.getfield 158, 3) := by decide +kernel
theorem dX11_joinedWith_41 : decode cX11_joinedWith 41 = .ok (.ifCond .ne 5, 3) := by decide +kernel
theorem dX11_joinedWith_44 : decode cX11_joinedWith 44 = .ok (.iconst 0, 1) := by decide +kernel
theorem dX11_joinedWith_45 : decode cX11_joinedWith 45 = .ok (.ireturn, 1) := by decide +kernel
theorem dX11_joinedWith_46 : decode cX11_joinedWith 46 = .ok (.iconst 1, 1) := by decide +kernel
theorem dX11_joinedWith_47 : decode cX11_joinedWith 47 = .ok (.aload_n 3, 1) := by decide +kernel
theorem dX11_joinedWith_48 : decode cX11_joinedWith 48 = .ok (.getfield 261, 3) := by decide +kernel
theorem dX11_joinedWith_51 : decode cX11_joinedWith 51 = .ok (.getfield 478, 3) := by decide +kernel
theorem dX11_joinedWith_54 : decode cX11_joinedWith 54 = .ok (.ishl, 1) := by decide +kernel
theorem dX11_joinedWith_55 : decode cX11_joinedWith 55 = .ok (.istore 5, 2) := by decide +kernel
theorem dX11_joinedWith_57 : decode cX11_joinedWith 57 = .ok (.iconst 0, 1) := by decide +kernel
theorem dX11_joinedWith_58 : decode cX11_joinedWith 58 = .ok (.istore 6, 2) := by decide +kernel
theorem dX11_joinedWith_60 : decode cX11_joinedWith 60 = .ok (.iload 6, 2) := by decide +kernel
theorem dX11_joinedWith_62 : decode cX11_joinedWith 62 = .ok (.bipush 24, 2) := by decide +kernel
theorem dX11_joinedWith_64 : decode cX11_joinedWith 64 = .ok (.if_icmp .ge 70, 3) := by decide +kernel
theorem dX11_joinedWith_67 : decode cX11_joinedWith 67 = .ok (.iconst 0, 1) := by decide +kernel
theorem dX11_joinedWith_68 : decode cX11_joinedWith 68 = .ok (.istore 7, 2) := by decide +kernel
theorem dX11_joinedWith_70 : decode cX11_joinedWith 70 = .ok (.iload 7, 2) := by decide +kernel
theorem dX11_joinedWith_72 : decode cX11_joinedWith 72 = .ok (.aload_n 0, 1) := by decide +kernel
theorem dX11_joinedWith_73 : decode cX11_joinedWith 73 = .ok (.getfield 61, 3) := by decide +kernel
theorem dX11_joinedWith_76 : decode cX11_joinedWith 76 = .ok (.if_icmp .ge 52, 3) := by decide +kernel
theorem dX11_joinedWith_79 : decode cX11_joinedWith 79 = .ok (.aload_n 0, 1) := by decide +kernel
theorem dX11_joinedWith_80 : decode cX11_joinedWith 80 = .ok (.getfield 17, 3) := by decide +kernel
theorem dX11_joinedWith_83 : decode cX11_joinedWith 83 = .ok (.iload 7, 2) := by decide +kernel
theorem dX11_joinedWith_85 : decode cX11_joinedWith 85 = .ok (.aaload, 1) := by decide +kernel
theorem dX11_joinedWith_86 : decode cX11_joinedWith 86 = .ok (.getfield 109, 3) := by decide +kernel
theorem dX11_joinedWith_89 : decode cX11_joinedWith 89 = .ok (.ifCond .ne 6, 3) := by decide +kernel
theorem dX11_joinedWith_92 : decode cX11_joinedWith 92 = .ok (.goto 30, 3) := by decide +kernel
theorem dX11_joinedWith_95 : decode cX11_joinedWith 95 = .ok (.aload_n 0, 1) := by decide +kernel
theorem dX11_joinedWith_96 : decode cX11_joinedWith 96 = .ok (.getfield 17, 3) := by decide +kernel
theorem dX11_joinedWith_99 : decode cX11_joinedWith 99 = .ok (.iload 7, 2) := by decide +kernel
theorem dX11_joinedWith_101 : decode cX11_joinedWith 101 = .ok (.aaload, 1) := by decide +kernel
theorem dX11_joinedWith_102 : decode cX11_joinedWith 102 = .ok (.invokevirtual 480, 3) := by decide +kernel
theorem dX11_joinedWith_105 : decode cX11_joinedWith 105 = .ok (.istore 8, 2) := by decide +kernel
theorem dX11_joinedWith_107 : decode cX11_joinedWith 107 = .ok (.iload 8, 2) := by decide +kernel
theorem dX11_joinedWith_109 : decode cX11_joinedWith 109 = .ok (.iload 5, 2) := by decide +kernel
theorem dX11_joinedWith_111 : decode cX11_joinedWith 111 = .ok (.iand, 1) := by decide +kernel
theorem dX11_joinedWith_112 : decode cX11_joinedWith 112 = .ok (.ifCond .eq 10, 3) := by decide +kernel
theorem dX11_joinedWith_115 : decode cX11_joinedWith 115 = .ok (.iload 5, 2) := by decide +kernel
theorem dX11_joinedWith_117 : decode cX11_joinedWith 117 = .ok (.iload 8, 2) := by decide +kernel
theorem dX11_joinedWith_119 : decode cX11_joinedWith 119 = .ok (.ior, 1) := by decide +kernel
theorem dX11_joinedWith_120 : decode cX11_joinedWith 120 = .ok (.istore 5, 2) := by decide +kernel
theorem dX11_joinedWith_122 : decode cX11_joinedWith 122 = .ok (.iinc 7 1, 3) := by decide +kernel
theorem dX11_joinedWith_125 : decode cX11_joinedWith 125 = .ok (.goto (-55), 3) := by decide +kernel
theorem dX11_joinedWith_128 : decode cX11_joinedWith 128 = .ok (.iinc 6 1, 3) := by decide +kernel
theorem dX11_joinedWith_131 : decode cX11_joinedWith 131 = .ok (.goto (-71), 3) := by decide +kernel
theorem dX11_joinedWith_134 : decode cX11_joinedWith 134 = .ok (.iload 5, 2) := by decide +kernel
theorem dX11_joinedWith_136 : decode cX11_joinedWith 136 = .ok (.aload 4, 2) := by decide +kernel
theorem dX11_joinedWith_138 : decode cX11_joinedWith 138 = .ok (.getfield 261, 3) := by decide +kernel
theorem dX11_joinedWith_141 : decode cX11_joinedWith 141 = .ok (.getfield 478, 3) := by decide +kernel
theorem dX11_joinedWith_144 : decode cX11_joinedWith 144 = .ok (.iushr, 1) := by decide +kernel
theorem dX11_joinedWith_145 : decode cX11_joinedWith 145 = .ok (.iconst 1, 1) := by decide +kernel
theorem dX11_joinedWith_146 : decode cX11_joinedWith 146 = .ok (.iand, 1) := by decide +kernel
theorem dX11_joinedWith_147 : decode cX11_joinedWith 147 = .ok (.ifCond .eq 7, 3) := by decide +kernel
theorem dX11_joinedWith_150 : decode cX11_joinedWith 150 = .ok (.iconst 1, 1) := by decide +kernel
theorem dX11_joinedWith_151 : decode cX11_joinedWith 151 = .ok (.goto 4, 3) := by decide +kernel
theorem dX11_joinedWith_154 : decode cX11_joinedWith 154 = .ok (.iconst 0, 1) := by decide +kernel
theorem dX11_joinedWith_155 : decode cX11_joinedWith 155 = .ok (.ireturn, 1) := by decide +kernel
theorem dX11_costFromAbove_0 : decode cX11_costFromAbove 0 = .ok (.aload_n 2, 1) := by decide +kernel
theorem dX11_costFromAbove_1 : decode cX11_costFromAbove 1 = .ok (.getfield 158, 3) := by decide +kernel
theorem dX11_costFromAbove_4 : decode cX11_costFromAbove 4 = .ok (.ifCond .ne 5, 3) := by decide +kernel
theorem dX11_costFromAbove_7 : decode cX11_costFromAbove 7 = .ok (.iconst (-1), 1) := by decide +kernel
theorem dX11_costFromAbove_8 : decode cX11_costFromAbove 8 = .ok (.ireturn, 1) := by decide +kernel
theorem dX11_costFromAbove_9 : decode cX11_costFromAbove 9 = .ok (.aload_n 1, 1) := by decide +kernel
theorem dX11_costFromAbove_10 : decode cX11_costFromAbove 10 = .ok (.aload_n 2, 1) := by decide +kernel
theorem dX11_costFromAbove_11 : decode cX11_costFromAbove 11 = .ok (.getfield 478, 3) := by decide +kernel
theorem dX11_costFromAbove_14 : decode cX11_costFromAbove 14 = .ok (.invokevirtual 118, 3) := by decide +kernel
theorem dX11_costFromAbove_17 : decode cX11_costFromAbove 17 = .ok (.astore_n 3, 1) := by decide +kernel
theorem dX11_costFromAbove_18 : decode cX11_costFromAbove 18 = .ok (.aload_n 3, 1) := by decide +kernel
theorem dX11_costFromAbove_19 : decode cX11_costFromAbove 19 = .ok (.ifnull 8, 3) := by decide +kernel
theorem dX11_costFromAbove_22 : decode cX11_costFromAbove 22 = .ok (.aload_n 3, 1) := by decide +kernel
theorem dX11_costFromAbove_23 : decode cX11_costFromAbove 23 = .ok (.getfield 153, 3) := by decide +kernel
theorem dX11_costFromAbove_26 : decode cX11_costFromAbove 26 = .ok (.ireturn, 1) := by decide +kernel
theorem dX11_costFromAbove_27 : decode cX11_costFromAbove 27 = .ok (.iconst 0, 1) := by decide +kernel
theorem dX11_costFromAbove_28 : decode cX11_costFromAbove 28 = .ok (.istore 4, 2) := by decide +kernel
theorem dX11_costFromAbove_30 : decode cX11_costFromAbove 30 = .ok (.iload 4, 2) := by decide +kernel
theorem dX11_costFromAbove_32 : decode cX11_costFromAbove 32 = .ok (.bipush 16, 2) := by decide +kernel
theorem dX11_costFromAbove_34 : decode cX11_costFromAbove 34 = .ok (.if_icmp .ge 19, 3) := by decide +kernel
theorem dX11_costFromAbove_37 : decode cX11_costFromAbove 37 = .ok (.aload_n 0, 1) := by decide +kernel
theorem dX11_costFromAbove_38 : decode cX11_costFromAbove 38 = .ok (.getfield 49, 3) := by decide +kernel
theorem dX11_costFromAbove_41 : decode cX11_costFromAbove 41 = .ok (.iload 4, 2) := by decide +kernel
theorem dX11_costFromAbove_43 : decode cX11_costFromAbove 43 = .ok (.ldc_w 483, 3) := by decide +kernel
theorem dX11_costFromAbove_46 : decode cX11_costFromAbove 46 = .ok (.iastore, 1) := by decide +kernel
theorem dX11_costFromAbove_47 : decode cX11_costFromAbove 47 = .ok (.iinc 4 1, 3) := by decide +kernel
theorem dX11_costFromAbove_50 : decode cX11_costFromAbove 50 = .ok (.goto (-20), 3) := by decide +kernel
theorem dX11_costFromAbove_53 : decode cX11_costFromAbove 53 = .ok (.aload_n 0, 1) := by decide +kernel
theorem dX11_costFromAbove_54 : decode cX11_costFromAbove 54 = .ok (.getfield 49, 3) := by decide +kernel
theorem dX11_costFromAbove_57 : decode cX11_costFromAbove 57 = .ok (.aload_n 1, 1) := by decide +kernel
theorem dX11_costFromAbove_58 : decode cX11_costFromAbove 58 = .ok (.getfield 484, 3) := by decide +kernel
theorem dX11_costFromAbove_61 : decode cX11_costFromAbove 61 = .ok (.iconst 0, 1) := by decide +kernel
theorem dX11_costFromAbove_62 : decode cX11_costFromAbove 62 = .ok (.iastore, 1) := by decide +kernel
theorem dX11_costFromAbove_63 : decode cX11_costFromAbove 63 = .ok (.iconst 1, 1) := by decide +kernel
theorem dX11_costFromAbove_64 : decode cX11_costFromAbove 64 = .ok (.istore 4, 2) := by decide +kernel
theorem dX11_costFromAbove_66 : decode cX11_costFromAbove 66 = .ok (.iconst 0, 1) := by decide +kernel
theorem dX11_costFromAbove_67 : decode cX11_costFromAbove 67 = .ok (.istore 5, 2) := by decide +kernel
theorem dX11_costFromAbove_69 : decode cX11_costFromAbove 69 = .ok (.iload 5, 2) := by decide +kernel
theorem dX11_costFromAbove_71 : decode cX11_costFromAbove 71 = .ok (.bipush 16, 2) := by decide +kernel
theorem dX11_costFromAbove_73 : decode cX11_costFromAbove 73 = .ok (.if_icmp .ge 65, 3) := by decide +kernel
theorem dX11_costFromAbove_76 : decode cX11_costFromAbove 76 = .ok (.iload 4, 2) := by decide +kernel
theorem dX11_costFromAbove_78 : decode cX11_costFromAbove 78 = .ok (.ifCond .eq 60, 3) := by decide +kernel
theorem dX11_costFromAbove_81 : decode cX11_costFromAbove 81 = .ok (.iconst 0, 1) := by decide +kernel
theorem dX11_costFromAbove_82 : decode cX11_costFromAbove 82 = .ok (.istore 4, 2) := by decide +kernel
theorem dX11_costFromAbove_84 : decode cX11_costFromAbove 84 = .ok (.iconst 0, 1) := by decide +kernel
theorem dX11_costFromAbove_85 : decode cX11_costFromAbove 85 = .ok (.istore 6, 2) := by decide +kernel
theorem dX11_costFromAbove_87 : decode cX11_costFromAbove 87 = .ok (.iload 6, 2) := by decide +kernel
theorem dX11_costFromAbove_89 : decode cX11_costFromAbove 89 = .ok (.aload_n 0, 1) := by decide +kernel
theorem dX11_costFromAbove_90 : decode cX11_costFromAbove 90 = .ok (.getfield 61, 3) := by decide +kernel
theorem dX11_costFromAbove_93 : decode cX11_costFromAbove 93 = .ok (.if_icmp .ge 39, 3) := by decide +kernel
theorem dX11_costFromAbove_96 : decode cX11_costFromAbove 96 = .ok (.aload_n 0, 1) := by decide +kernel
theorem dX11_costFromAbove_97 : decode cX11_costFromAbove 97 = .ok (.getfield 49, 3) := by decide +kernel
theorem dX11_costFromAbove_100 : decode cX11_costFromAbove 100 = .ok (.iload 6, 2) := by decide +kernel
theorem dX11_costFromAbove_102 : decode cX11_costFromAbove 102 = .ok (.iaload, 1) := by decide +kernel
theorem dX11_costFromAbove_103 : decode cX11_costFromAbove 103 = .ok (.ldc_w 483, 3) := by decide +kernel
theorem dX11_costFromAbove_106 : decode cX11_costFromAbove 106 = .ok (.if_icmp .eq 20, 3) := by decide +kernel
theorem dX11_costFromAbove_109 : decode cX11_costFromAbove 109 = .ok (.aload_n 0, 1) := by decide +kernel
theorem dX11_costFromAbove_110 : decode cX11_costFromAbove 110 = .ok (.aload_n 0, 1) := by decide +kernel
theorem dX11_costFromAbove_111 : decode cX11_costFromAbove 111 = .ok (.getfield 17, 3) := by decide +kernel
theorem dX11_costFromAbove_114 : decode cX11_costFromAbove 114 = .ok (.iload 6, 2) := by decide +kernel
theorem dX11_costFromAbove_116 : decode cX11_costFromAbove 116 = .ok (.aaload, 1) := by decide +kernel
theorem dX11_costFromAbove_117 : decode cX11_costFromAbove 117 = .ok (.invokevirtual 485, 3) := by decide +kernel
theorem dX11_costFromAbove_120 : decode cX11_costFromAbove 120 = .ok (.ifCond .eq 6, 3) := by decide +kernel
theorem dX11_costFromAbove_123 : decode cX11_costFromAbove 123 = .ok (.iconst 1, 1) := by decide +kernel
theorem dX11_costFromAbove_124 : decode cX11_costFromAbove 124 = .ok (.istore 4, 2) := by decide +kernel
theorem dX11_costFromAbove_126 : decode cX11_costFromAbove 126 = .ok (.iinc 6 1, 3) := by decide +kernel
theorem dX11_costFromAbove_129 : decode cX11_costFromAbove 129 = .ok (.goto (-42), 3) := by decide +kernel
theorem dX11_costFromAbove_132 : decode cX11_costFromAbove 132 = .ok (.iinc 5 1, 3) := by decide +kernel
theorem dX11_costFromAbove_135 : decode cX11_costFromAbove 135 = .ok (.goto (-66), 3) := by decide +kernel
theorem dX11_costFromAbove_138 : decode cX11_costFromAbove 138 = .ok (.ldc_w 483, 3) := by decide +kernel
theorem dX11_costFromAbove_141 : decode cX11_costFromAbove 141 = .ok (.istore 5, 2) := by decide +kernel
theorem dX11_costFromAbove_143 : decode cX11_costFromAbove 143 = .ok (.iconst 0, 1) := by decide +kernel
theorem dX11_costFromAbove_144 : decode cX11_costFromAbove 144 = .ok (.istore 6, 2) := by decide +kernel
theorem dX11_costFromAbove_146 : decode cX11_costFromAbove 146 = .ok (.iload 6, 2) := by decide +kernel
theorem dX11_costFromAbove_148 : decode cX11_costFromAbove 148 = .ok (.aload_n 2, 1) := by decide +kernel
theorem dX11_costFromAbove_149 : decode cX11_costFromAbove 149 = .ok (.getfield 124, 3) := by decide +kernel
theorem dX11_costFromAbove_152 : decode cX11_costFromAbove 152 = .ok (.if_icmp .ge 63, 3) := by decide +kernel
theorem dX11_costFromAbove_155 : decode cX11_costFromAbove 155 = .ok (.aload_n 2, 1) := by decide +kernel
theorem dX11_costFromAbove_156 : decode cX11_costFromAbove 156 = .ok (.getfield 138, 3) := by decide +kernel
theorem dX11_costFromAbove_159 : decode cX11_costFromAbove 159 = .ok (.iload 6, 2) := by decide +kernel
theorem dX11_costFromAbove_161 : decode cX11_costFromAbove 161 = .ok (.aaload, 1) := by decide +kernel
theorem dX11_costFromAbove_162 : decode cX11_costFromAbove 162 = .ok (.astore 7, 2) := by decide +kernel
theorem dX11_costFromAbove_164 : decode cX11_costFromAbove 164 = .ok (.aload_n 0, 1) := by decide +kernel
theorem dX11_costFromAbove_165 : decode cX11_costFromAbove 165 = .ok (.getfield 49, 3) := by decide +kernel
theorem dX11_costFromAbove_168 : decode cX11_costFromAbove 168 = .ok (.aload 7, 2) := by decide +kernel
theorem dX11_costFromAbove_170 : decode cX11_costFromAbove 170 = .ok (.getfield 474, 3) := by decide +kernel
theorem dX11_costFromAbove_173 : decode cX11_costFromAbove 173 = .ok (.getfield 484, 3) := by decide +kernel
theorem dX11_costFromAbove_176 : decode cX11_costFromAbove 176 = .ok (.iaload, 1) := by decide +kernel
theorem dX11_costFromAbove_177 : decode cX11_costFromAbove 177 = .ok (.ldc_w 483, 3) := by decide +kernel
theorem dX11_costFromAbove_180 : decode cX11_costFromAbove 180 = .ok (.if_icmp .eq 29, 3) := by decide +kernel
theorem dX11_costFromAbove_183 : decode cX11_costFromAbove 183 = .ok (.iload 5, 2) := by decide +kernel
theorem dX11_costFromAbove_185 : decode cX11_costFromAbove 185 = .ok (.aload_n 0, 1) := by decide +kernel
theorem dX11_costFromAbove_186 : decode cX11_costFromAbove 186 = .ok (.getfield 49, 3) := by decide +kernel
theorem dX11_costFromAbove_189 : decode cX11_costFromAbove 189 = .ok (.aload 7, 2) := by decide +kernel
theorem dX11_costFromAbove_191 : decode cX11_costFromAbove 191 = .ok (.getfield 474, 3) := by decide +kernel
theorem dX11_costFromAbove_194 : decode cX11_costFromAbove 194 = .ok (.getfield 484, 3) := by decide +kernel
theorem dX11_costFromAbove_197 : decode cX11_costFromAbove 197 = .ok (.iaload, 1) := by decide +kernel
theorem dX11_costFromAbove_198 : decode cX11_costFromAbove 198 = .ok (.aload 7, 2) := by decide +kernel
theorem dX11_costFromAbove_200 : decode cX11_costFromAbove 200 = .ok (.getfield 153, 3) := by decide +kernel
theorem dX11_costFromAbove_203 : decode cX11_costFromAbove 203 = .ok (.iadd, 1) := by decide +kernel
theorem dX11_costFromAbove_204 : decode cX11_costFromAbove 204 = .ok (.invokestatic 310, 3) := by decide +kernel
theorem dX11_costFromAbove_207 : decode cX11_costFromAbove 207 = .ok (.istore 5, 2) := by decide +kernel
theorem dX11_costFromAbove_209 : decode cX11_costFromAbove 209 = .ok (.iinc 6 1, 3) := by decide +kernel
theorem dX11_costFromAbove_212 : decode cX11_costFromAbove 212 = .ok (.goto (-66), 3) := by decide +kernel
theorem dX11_costFromAbove_215 : decode cX11_costFromAbove 215 = .ok (.iload 5, 2) := by decide +kernel
theorem dX11_costFromAbove_217 : decode cX11_costFromAbove 217 = .ok (.ldc_w 483, 3) := by decide +kernel
theorem dX11_costFromAbove_220 : decode cX11_costFromAbove 220 = .ok (.if_icmp .ne 7, 3) := by decide +kernel
theorem dX11_costFromAbove_223 : decode cX11_costFromAbove 223 = .ok (.iconst (-1), 1) := by decide +kernel
theorem dX11_costFromAbove_224 : decode cX11_costFromAbove 224 = .ok (.goto 5, 3) := by decide +kernel
theorem dX11_costFromAbove_227 : decode cX11_costFromAbove 227 = .ok (.iload 5, 2) := by decide +kernel
theorem dX11_costFromAbove_229 : decode cX11_costFromAbove 229 = .ok (.ireturn, 1) := by decide +kernel
theorem dX11_spreadReach_0 : decode cX11_spreadReach 0 = .ok (.iconst 0, 1) := by decide +kernel
theorem dX11_spreadReach_1 : decode cX11_spreadReach 1 = .ok (.istore_n 2, 1) := by decide +kernel
theorem dX11_spreadReach_2 : decode cX11_spreadReach 2 = .ok (.iconst 0, 1) := by decide +kernel
theorem dX11_spreadReach_3 : decode cX11_spreadReach 3 = .ok (.istore_n 3, 1) := by decide +kernel
theorem dX11_spreadReach_4 : decode cX11_spreadReach 4 = .ok (.iload_n 3, 1) := by decide +kernel
theorem dX11_spreadReach_5 : decode cX11_spreadReach 5 = .ok (.aload_n 1, 1) := by decide +kernel
theorem dX11_spreadReach_6 : decode cX11_spreadReach 6 = .ok (.getfield 113, 3) := by decide +kernel
theorem dX11_spreadReach_9 : decode cX11_spreadReach 9 = .ok (.if_icmp .ge 123, 3) := by decide +kernel
theorem dX11_spreadReach_12 : decode cX11_spreadReach 12 = .ok (.aload_n 1, 1) := by decide +kernel
theorem dX11_spreadReach_13 : decode cX11_spreadReach 13 = .ok (.getfield 134, 3) := by decide +kernel
theorem dX11_spreadReach_16 : decode cX11_spreadReach 16 = .ok (.iload_n 3, 1) := by decide +kernel
theorem dX11_spreadReach_17 : decode cX11_spreadReach 17 = .ok (.aaload, 1) := by decide +kernel
theorem dX11_spreadReach_18 : decode cX11_spreadReach 18 = .ok (.astore 4, 2) := by decide +kernel
theorem dX11_spreadReach_20 : decode cX11_spreadReach 20 = .ok (.aload_n 0, 1) := by decide +kernel
theorem dX11_spreadReach_21 : decode cX11_spreadReach 21 = .ok (.getfield 49, 3) := by decide +kernel
theorem dX11_spreadReach_24 : decode cX11_spreadReach 24 = .ok (.aload_n 1, 1) := by decide +kernel
theorem dX11_spreadReach_25 : decode cX11_spreadReach 25 = .ok (.getfield 484, 3) := by decide +kernel
theorem dX11_spreadReach_28 : decode cX11_spreadReach 28 = .ok (.iaload, 1) := by decide +kernel
theorem dX11_spreadReach_29 : decode cX11_spreadReach 29 = .ok (.aload 4, 2) := by decide +kernel
theorem dX11_spreadReach_31 : decode cX11_spreadReach 31 = .ok (.getfield 153, 3) := by decide +kernel
theorem dX11_spreadReach_34 : decode cX11_spreadReach 34 = .ok (.iadd, 1) := by decide +kernel
theorem dX11_spreadReach_35 : decode cX11_spreadReach 35 = .ok (.istore 5, 2) := by decide +kernel
theorem dX11_spreadReach_37 : decode cX11_spreadReach 37 = .ok (.iconst 0, 1) := by decide +kernel
theorem dX11_spreadReach_38 : decode cX11_spreadReach 38 = .ok (.istore 6, 2) := by decide +kernel
theorem dX11_spreadReach_40 : decode cX11_spreadReach 40 = .ok (.iload 6, 2) := by decide +kernel
theorem dX11_spreadReach_42 : decode cX11_spreadReach 42 = .ok (.aload 4, 2) := by decide +kernel
theorem dX11_spreadReach_44 : decode cX11_spreadReach 44 = .ok (.getfield 261, 3) := by decide +kernel
theorem dX11_spreadReach_47 : decode cX11_spreadReach 47 = .ok (.getfield 124, 3) := by decide +kernel
theorem dX11_spreadReach_50 : decode cX11_spreadReach 50 = .ok (.if_icmp .ge 76, 3) := by decide +kernel
theorem dX11_spreadReach_53 : decode cX11_spreadReach 53 = .ok (.aload 4, 2) := by decide +kernel
theorem dX11_spreadReach_55 : decode cX11_spreadReach 55 = .ok (.getfield 261, 3) := by decide +kernel
theorem dX11_spreadReach_58 : decode cX11_spreadReach 58 = .ok (.getfield 158, 3) := by decide +kernel
theorem dX11_spreadReach_61 : decode cX11_spreadReach 61 = .ok (.ifCond .eq 65, 3) := by decide +kernel
theorem dX11_spreadReach_64 : decode cX11_spreadReach 64 = .ok (.aload 4, 2) := by decide +kernel
theorem dX11_spreadReach_66 : decode cX11_spreadReach 66 = .ok (.getfield 261, 3) := by decide +kernel
theorem dX11_spreadReach_69 : decode cX11_spreadReach 69 = .ok (.getfield 138, 3) := by decide +kernel
theorem dX11_spreadReach_72 : decode cX11_spreadReach 72 = .ok (.iload 6, 2) := by decide +kernel
theorem dX11_spreadReach_74 : decode cX11_spreadReach 74 = .ok (.aaload, 1) := by decide +kernel
theorem dX11_spreadReach_75 : decode cX11_spreadReach 75 = .ok (.getfield 474, 3) := by decide +kernel
theorem dX11_spreadReach_78 : decode cX11_spreadReach 78 = .ok (.astore 7, 2) := by decide +kernel
theorem dX11_spreadReach_80 : decode cX11_spreadReach 80 = .ok (.aload 7, 2) := by decide +kernel
theorem dX11_spreadReach_82 : decode cX11_spreadReach 82 = .ok (.getfield 109, 3) := by decide +kernel
theorem dX11_spreadReach_85 : decode cX11_spreadReach 85 = .ok (.ifCond .eq 35, 3) := by decide +kernel
theorem dX11_spreadReach_88 : decode cX11_spreadReach 88 = .ok (.aload_n 0, 1) := by decide +kernel
theorem dX11_spreadReach_89 : decode cX11_spreadReach 89 = .ok (.getfield 49, 3) := by decide +kernel
theorem dX11_spreadReach_92 : decode cX11_spreadReach 92 = .ok (.aload 7, 2) := by decide +kernel
theorem dX11_spreadReach_94 : decode cX11_spreadReach 94 = .ok (.getfield 484, 3) := by decide +kernel
theorem dX11_spreadReach_97 : decode cX11_spreadReach 97 = .ok (.iaload, 1) := by decide +kernel
theorem dX11_spreadReach_98 : decode cX11_spreadReach 98 = .ok (.iload 5, 2) := by decide +kernel
theorem dX11_spreadReach_100 : decode cX11_spreadReach 100 = .ok (.if_icmp .gt 6, 3) := by decide +kernel
theorem dX11_spreadReach_103 : decode cX11_spreadReach 103 = .ok (.goto 17, 3) := by decide +kernel
theorem dX11_spreadReach_106 : decode cX11_spreadReach 106 = .ok (.aload_n 0, 1) := by decide +kernel
theorem dX11_spreadReach_107 : decode cX11_spreadReach 107 = .ok (.getfield 49, 3) := by decide +kernel
theorem dX11_spreadReach_110 : decode cX11_spreadReach 110 = .ok (.aload 7, 2) := by decide +kernel
theorem dX11_spreadReach_112 : decode cX11_spreadReach 112 = .ok (.getfield 484, 3) := by decide +kernel
theorem dX11_spreadReach_115 : decode cX11_spreadReach 115 = .ok (.iload 5, 2) := by decide +kernel
theorem dX11_spreadReach_117 : decode cX11_spreadReach 117 = .ok (.iastore, 1) := by decide +kernel
theorem dX11_spreadReach_118 : decode cX11_spreadReach 118 = .ok (.iconst 1, 1) := by decide +kernel
theorem dX11_spreadReach_119 : decode cX11_spreadReach 119 = .ok (.istore_n 2, 1) := by decide +kernel
theorem dX11_spreadReach_120 : decode cX11_spreadReach 120 = .ok (.iinc 6 1, 3) := by decide +kernel
theorem dX11_spreadReach_123 : decode cX11_spreadReach 123 = .ok (.goto (-83), 3) := by decide +kernel
theorem dX11_spreadReach_126 : decode cX11_spreadReach 126 = .ok (.iinc 3 1, 3) := by decide +kernel
theorem dX11_spreadReach_129 : decode cX11_spreadReach 129 = .ok (.goto (-125), 3) := by decide +kernel
theorem dX11_spreadReach_132 : decode cX11_spreadReach 132 = .ok (.iload_n 2, 1) := by decide +kernel
theorem dX11_spreadReach_133 : decode cX11_spreadReach 133 = .ok (.ireturn, 1) := by decide +kernel
theorem dX11_boxOf_0 : decode cX11_boxOf 0 = .ok (.iload_n 1, 1) := by decide +kernel
theorem dX11_boxOf_1 : decode cX11_boxOf 1 = .ok (.ifCond .lt 20, 3) := by decide +kernel
theorem dX11_boxOf_4 : decode cX11_boxOf 4 = .ok (.iload_n 1, 1) := by decide +kernel
theorem dX11_boxOf_5 : decode cX11_boxOf 5 = .ok (.aload_n 0, 1) := by decide +kernel
theorem dX11_boxOf_6 : decode cX11_boxOf 6 = .ok (.getfield 61, 3) := by decide +kernel
theorem dX11_boxOf_9 : decode cX11_boxOf 9 = .ok (.if_icmp .ge 12, 3) := by decide +kernel
theorem dX11_boxOf_12 : decode cX11_boxOf 12 = .ok (.aload_n 0, 1) := by decide +kernel
theorem dX11_boxOf_13 : decode cX11_boxOf 13 = .ok (.getfield 17, 3) := by decide +kernel
theorem dX11_boxOf_16 : decode cX11_boxOf 16 = .ok (.iload_n 1, 1) := by decide +kernel
theorem dX11_boxOf_17 : decode cX11_boxOf 17 = .ok (.aaload, 1) := by decide +kernel
theorem dX11_boxOf_18 : decode cX11_boxOf 18 = .ok (.goto 4, 3) := by decide +kernel
theorem dX11_boxOf_21 : decode cX11_boxOf 21 = .ok (.aconst_null, 1) := by decide +kernel
theorem dX11_boxOf_22 : decode cX11_boxOf 22 = .ok (.areturn, 1) := by decide +kernel
theorem dX11_hostOf_0 : decode cX11_hostOf 0 = .ok (.aload_n 0, 1) := by decide +kernel
theorem dX11_hostOf_1 : decode cX11_hostOf 1 = .ok (.iload_n 1, 1) := by decide +kernel
theorem dX11_hostOf_2 : decode cX11_hostOf 2 = .ok (.invokevirtual 99, 3) := by decide +kernel
theorem dX11_hostOf_5 : decode cX11_hostOf 5 = .ok (.astore_n 2, 1) := by decide +kernel
theorem dX11_hostOf_6 : decode cX11_hostOf 6 = .ok (.aload_n 2, 1) := by decide +kernel
theorem dX11_hostOf_7 : decode cX11_hostOf 7 = .ok (.ifnull 10, 3) := by decide +kernel
theorem dX11_hostOf_10 : decode cX11_hostOf 10 = .ok (.aload_n 2, 1) := by decide +kernel
theorem dX11_hostOf_11 : decode cX11_hostOf 11 = .ok (.getfield 109, 3) := by decide +kernel
theorem dX11_hostOf_14 : decode cX11_hostOf 14 = .ok (.ifCond .eq 7, 3) := by decide +kernel
theorem dX11_hostOf_17 : decode cX11_hostOf 17 = .ok (.aconst_null, 1) := by decide +kernel
theorem dX11_hostOf_18 : decode cX11_hostOf 18 = .ok (.goto 4, 3) := by decide +kernel
theorem dX11_hostOf_21 : decode cX11_hostOf 21 = .ok (.aload_n 2, 1) := by decide +kernel
theorem dX11_hostOf_22 : decode cX11_hostOf 22 = .ok (.areturn, 1) := by decide +kernel
theorem dX11_routerOf_0 : decode cX11_routerOf 0 = .ok (.aload_n 0, 1) := by decide +kernel
theorem dX11_routerOf_1 : decode cX11_routerOf 1 = .ok (.iload_n 1, 1) := by decide +kernel
theorem dX11_routerOf_2 : decode cX11_routerOf 2 = .ok (.invokevirtual 99, 3) := by decide +kernel
theorem dX11_routerOf_5 : decode cX11_routerOf 5 = .ok (.astore_n 2, 1) := by decide +kernel
theorem dX11_routerOf_6 : decode cX11_routerOf 6 = .ok (.aload_n 2, 1) := by decide +kernel
theorem dX11_routerOf_7 : decode cX11_routerOf 7 = .ok (.ifnull 10, 3) := by decide +kernel
theorem dX11_routerOf_10 : decode cX11_routerOf 10 = .ok (.aload_n 2, 1) := by decide +kernel
theorem dX11_routerOf_11 : decode cX11_routerOf 11 = .ok (.getfield 109, 3) := by decide +kernel
theorem dX11_routerOf_14 : decode cX11_routerOf 14 = .ok (.ifCond .ne 7, 3) := by decide +kernel
theorem dX11_routerOf_17 : decode cX11_routerOf 17 = .ok (.aconst_null, 1) := by decide +kernel
theorem dX11_routerOf_18 : decode cX11_routerOf 18 = .ok (.goto 4, 3) := by decide +kernel
theorem dX11_routerOf_21 : decode cX11_routerOf 21 = .ok (.aload_n 2, 1) := by decide +kernel
theorem dX11_routerOf_22 : decode cX11_routerOf 22 = .ok (.areturn, 1) := by decide +kernel
theorem dX11_netOf_0 : decode cX11_netOf 0 = .ok (.iload_n 1, 1) := by decide +kernel
theorem dX11_netOf_1 : decode cX11_netOf 1 = .ok (.ifCond .lt 20, 3) := by decide +kernel
theorem dX11_netOf_4 : decode cX11_netOf 4 = .ok (.iload_n 1, 1) := by decide +kernel
theorem dX11_netOf_5 : decode cX11_netOf 5 = .ok (.aload_n 0, 1) := by decide +kernel
theorem dX11_netOf_6 : decode cX11_netOf 6 = .ok (.getfield 85, 3) := by decide +kernel
theorem dX11_netOf_9 : decode cX11_netOf 9 = .ok (.if_icmp .ge 12, 3) := by decide +kernel
theorem dX11_netOf_12 : decode cX11_netOf 12 = .ok (.aload_n 0, 1) := by decide +kernel
theorem dX11_netOf_13 : decode cX11_netOf 13 = .ok (.getfield 11, 3) := by decide +kernel
theorem dX11_netOf_16 : decode cX11_netOf 16 = .ok (.iload_n 1, 1) := by decide +kernel
theorem dX11_netOf_17 : decode cX11_netOf 17 = .ok (.aaload, 1) := by decide +kernel
theorem dX11_netOf_18 : decode cX11_netOf 18 = .ok (.goto 4, 3) := by decide +kernel
theorem dX11_netOf_21 : decode cX11_netOf 21 = .ok (.aconst_null, 1) := by decide +kernel
theorem dX11_netOf_22 : decode cX11_netOf 22 = .ok (.areturn, 1) := by decide +kernel
theorem dX11_doorOf_0 : decode cX11_doorOf 0 = .ok (.aload_n 0, 1) := by decide +kernel
theorem dX11_doorOf_1 : decode cX11_doorOf 1 = .ok (.iload_n 1, 1) := by decide +kernel
theorem dX11_doorOf_2 : decode cX11_doorOf 2 = .ok (.invokevirtual 198, 3) := by decide +kernel
theorem dX11_doorOf_5 : decode cX11_doorOf 5 = .ok (.astore_n 3, 1) := by decide +kernel
theorem dX11_doorOf_6 : decode cX11_doorOf 6 = .ok (.aload_n 3, 1) := by decide +kernel
theorem dX11_doorOf_7 : decode cX11_doorOf 7 = .ok (.ifnull 13, 3) := by decide +kernel
theorem dX11_doorOf_10 : decode cX11_doorOf 10 = .ok (.iload_n 2, 1) := by decide +kernel
theorem dX11_doorOf_11 : decode cX11_doorOf 11 = .ok (.ifCond .lt 9, 3) := by decide +kernel
theorem dX11_doorOf_14 : decode cX11_doorOf 14 = .ok (.iload_n 2, 1) := by decide +kernel
theorem dX11_doorOf_15 : decode cX11_doorOf 15 = .ok (.bipush 6, 2) := by decide +kernel
theorem dX11_doorOf_17 : decode cX11_doorOf 17 = .ok (.if_icmp .lt 7, 3) := by decide +kernel
theorem dX11_doorOf_20 : decode cX11_doorOf 20 = .ok (.aconst_null, 1) := by decide +kernel
theorem dX11_doorOf_21 : decode cX11_doorOf 21 = .ok (.goto 9, 3) := by decide +kernel
theorem dX11_doorOf_24 : decode cX11_doorOf 24 = .ok (.aload_n 3, 1) := by decide +kernel
theorem dX11_doorOf_25 : decode cX11_doorOf 25 = .ok (.getfield 220, 3) := by decide +kernel
theorem dX11_doorOf_28 : decode cX11_doorOf 28 = .ok (.iload_n 2, 1) := by decide +kernel
theorem dX11_doorOf_29 : decode cX11_doorOf 29 = .ok (.aaload, 1) := by decide +kernel
theorem dX11_doorOf_30 : decode cX11_doorOf 30 = .ok (.areturn, 1) := by decide +kernel
theorem dX11_readableDoor_0 : decode cX11_readableDoor 0 = .ok (.aload_n 0, 1) := by decide +kernel
theorem dX11_readableDoor_1 : decode cX11_readableDoor 1 = .ok (.iload_n 1, 1) := by decide +kernel
theorem dX11_readableDoor_2 : decode cX11_readableDoor 2 = .ok (.iload_n 2, 1) := by decide +kernel
theorem dX11_readableDoor_3 : decode cX11_readableDoor 3 = .ok (.invokevirtual 273, 3) := by decide +kernel
theorem dX11_readableDoor_6 : decode cX11_readableDoor 6 = .ok (.astore_n 3, 1) := by decide +kernel
theorem dX11_readableDoor_7 : decode cX11_readableDoor 7 = .ok (.aload_n 3, 1) := by decide +kernel
theorem dX11_readableDoor_8 : decode cX11_readableDoor 8 = .ok (.ifnonnull 14, 3) := by decide +kernel
theorem dX11_readableDoor_11 : decode cX11_readableDoor 11 = .ok (.new 78, 3) := by decide +kernel
theorem dX11_readableDoor_14 : decode cX11_readableDoor 14 = .ok (.dup, 1) := by decide +kernel
theorem dX11_readableDoor_15 : decode cX11_readableDoor 15 = .ok (.ldc_w 277, 3) := by decide +kernel
theorem dX11_readableDoor_18 : decode cX11_readableDoor 18 = .ok (.invokespecial 82, 3) := by decide +kernel
theorem dX11_readableDoor_21 : decode cX11_readableDoor 21 = .ok (.athrow, 1) := by decide +kernel
theorem dX11_readableDoor_22 : decode cX11_readableDoor 22 = .ok (.aload_n 3, 1) := by decide +kernel
theorem dX11_readableDoor_23 : decode cX11_readableDoor 23 = .ok (.getfield 279, 3) := by decide +kernel
theorem dX11_readableDoor_26 : decode cX11_readableDoor 26 = .ok (.iconst 2, 1) := by decide +kernel
theorem dX11_readableDoor_27 : decode cX11_readableDoor 27 = .ok (.if_icmp .eq 14, 3) := by decide +kernel
theorem dX11_readableDoor_30 : decode cX11_readableDoor 30 = .ok (.new 65, 3) := by decide +kernel
theorem dX11_readableDoor_33 : decode cX11_readableDoor 33 = .ok (.dup, 1) := by decide +kernel
theorem dX11_readableDoor_34 : decode cX11_readableDoor 34 = .ok (.ldc_w 369, 3) := by decide +kernel
theorem dX11_readableDoor_37 : decode cX11_readableDoor 37 = .ok (.invokespecial 69, 3) := by decide +kernel
theorem dX11_readableDoor_40 : decode cX11_readableDoor 40 = .ok (.athrow, 1) := by decide +kernel
theorem dX11_readableDoor_41 : decode cX11_readableDoor 41 = .ok (.aload_n 3, 1) := by decide +kernel
theorem dX11_readableDoor_42 : decode cX11_readableDoor 42 = .ok (.getfield 253, 3) := by decide +kernel
theorem dX11_readableDoor_45 : decode cX11_readableDoor 45 = .ok (.astore 4, 2) := by decide +kernel
theorem dX11_readableDoor_47 : decode cX11_readableDoor 47 = .ok (.aload 4, 2) := by decide +kernel
theorem dX11_readableDoor_49 : decode cX11_readableDoor 49 = .ok (.getfield 332, 3) := by decide +kernel
theorem dX11_readableDoor_52 : decode cX11_readableDoor 52 = .ok (.getfield 336, 3) := by decide +kernel
theorem dX11_readableDoor_55 : decode cX11_readableDoor 55 = .ok (.ifCond .ne 42, 3) := by decide +kernel
theorem dX11_readableDoor_58 : decode cX11_readableDoor 58 = .ok (.aload 4, 2) := by decide +kernel
theorem dX11_readableDoor_60 : decode cX11_readableDoor 60 = .ok (.getfield 332, 3) := by decide +kernel
theorem dX11_readableDoor_63 : decode cX11_readableDoor 63 = .ok (.getfield 339, 3) := by decide +kernel
theorem dX11_readableDoor_66 : decode cX11_readableDoor 66 = .ok (.ifCond .ne 31, 3) := by decide +kernel
theorem dX11_readableDoor_69 : decode cX11_readableDoor 69 = .ok (.aload 4, 2) := by decide +kernel
theorem dX11_readableDoor_71 : decode cX11_readableDoor 71 = .ok (.invokevirtual 355, 3) := by decide +kernel
theorem dX11_readableDoor_74 : decode cX11_readableDoor 74 = .ok (.ifCond .ne 12, 3) := by decide +kernel
theorem dX11_readableDoor_77 : decode cX11_readableDoor 77 = .ok (.aload 4, 2) := by decide +kernel
theorem dX11_readableDoor_79 : decode cX11_readableDoor 79 = .ok (.getfield 290, 3) := by decide +kernel
theorem dX11_readableDoor_82 : decode cX11_readableDoor 82 = .ok (.iconst 1, 1) := by decide +kernel
theorem dX11_readableDoor_83 : decode cX11_readableDoor 83 = .ok (.if_icmp .ne 14, 3) := by decide +kernel
theorem dX11_readableDoor_86 : decode cX11_readableDoor 86 = .ok (.new 65, 3) := by decide +kernel
theorem dX11_readableDoor_89 : decode cX11_readableDoor 89 = .ok (.dup, 1) := by decide +kernel
theorem dX11_readableDoor_90 : decode cX11_readableDoor 90 = .ok (.ldc_w 489, 3) := by decide +kernel
theorem dX11_readableDoor_93 : decode cX11_readableDoor 93 = .ok (.invokespecial 69, 3) := by decide +kernel
theorem dX11_readableDoor_96 : decode cX11_readableDoor 96 = .ok (.athrow, 1) := by decide +kernel
theorem dX11_readableDoor_97 : decode cX11_readableDoor 97 = .ok (.aload_n 3, 1) := by decide +kernel
theorem dX11_readableDoor_98 : decode cX11_readableDoor 98 = .ok (.areturn, 1) := by decide +kernel
theorem dX11_portOfAddress_0 : decode cX11_portOfAddress 0 = .ok (.aload_n 0, 1) := by decide +kernel
theorem dX11_portOfAddress_1 : decode cX11_portOfAddress 1 = .ok (.iload_n 1, 1) := by decide +kernel
theorem dX11_portOfAddress_2 : decode cX11_portOfAddress 2 = .ok (.invokevirtual 491, 3) := by decide +kernel
theorem dX11_portOfAddress_5 : decode cX11_portOfAddress 5 = .ok (.ifCond .eq 19, 3) := by decide +kernel
theorem dX11_portOfAddress_8 : decode cX11_portOfAddress 8 = .ok (.aload_n 0, 1) := by decide +kernel
theorem dX11_portOfAddress_9 : decode cX11_portOfAddress 9 = .ok (.getfield 11, 3) := by decide +kernel
theorem dX11_portOfAddress_12 : decode cX11_portOfAddress 12 = .ok (.iload_n 1, 1) := by decide +kernel
theorem dX11_portOfAddress_13 : decode cX11_portOfAddress 13 = .ok (.bipush 16, 2) := by decide +kernel
theorem dX11_portOfAddress_15 : decode cX11_portOfAddress 15 = .ok (.iushr, 1) := by decide +kernel
theorem dX11_portOfAddress_16 : decode cX11_portOfAddress 16 = .ok (.sipush 255, 3) := by decide +kernel
theorem dX11_portOfAddress_19 : decode cX11_portOfAddress 19 = .ok (.iand, 1) := by decide +kernel
theorem dX11_portOfAddress_20 : decode cX11_portOfAddress 20 = .ok (.aaload, 1) := by decide +kernel
theorem dX11_portOfAddress_21 : decode cX11_portOfAddress 21 = .ok (.goto 4, 3) := by decide +kernel
theorem dX11_portOfAddress_24 : decode cX11_portOfAddress 24 = .ok (.aconst_null, 1) := by decide +kernel
theorem dX11_portOfAddress_25 : decode cX11_portOfAddress 25 = .ok (.astore_n 2, 1) := by decide +kernel
theorem dX11_portOfAddress_26 : decode cX11_portOfAddress 26 = .ok (.aload_n 2, 1) := by decide +kernel
theorem dX11_portOfAddress_27 : decode cX11_portOfAddress 27 = .ok (.ifnonnull 5, 3) := by decide +kernel
theorem dX11_portOfAddress_30 : decode cX11_portOfAddress 30 = .ok (.aconst_null, 1) := by decide +kernel
theorem dX11_portOfAddress_31 : decode cX11_portOfAddress 31 = .ok (.areturn, 1) := by decide +kernel
theorem dX11_portOfAddress_32 : decode cX11_portOfAddress 32 = .ok (.iload_n 1, 1) := by decide +kernel
theorem dX11_portOfAddress_33 : decode cX11_portOfAddress 33 = .ok (.ldc 230, 2) := by decide +kernel
theorem dX11_portOfAddress_35 : decode cX11_portOfAddress 35 = .ok (.iand, 1) := by decide +kernel
theorem dX11_portOfAddress_36 : decode cX11_portOfAddress 36 = .ok (.iconst 1, 1) := by decide +kernel
theorem dX11_portOfAddress_37 : decode cX11_portOfAddress 37 = .ok (.isub, 1) := by decide +kernel
theorem dX11_portOfAddress_38 : decode cX11_portOfAddress 38 = .ok (.istore_n 3, 1) := by decide +kernel
theorem dX11_portOfAddress_39 : decode cX11_portOfAddress 39 = .ok (.iload_n 3, 1) := by decide +kernel
theorem dX11_portOfAddress_40 : decode cX11_portOfAddress 40 = .ok (.aload_n 2, 1) := by decide +kernel
theorem dX11_portOfAddress_41 : decode cX11_portOfAddress 41 = .ok (.getfield 124, 3) := by decide +kernel
theorem dX11_portOfAddress_44 : decode cX11_portOfAddress 44 = .ok (.if_icmp .ge 12, 3) := by decide +kernel
theorem dX11_portOfAddress_47 : decode cX11_portOfAddress 47 = .ok (.aload_n 2, 1) := by decide +kernel
theorem dX11_portOfAddress_48 : decode cX11_portOfAddress 48 = .ok (.getfield 138, 3) := by decide +kernel
theorem dX11_portOfAddress_51 : decode cX11_portOfAddress 51 = .ok (.iload_n 3, 1) := by decide +kernel
theorem dX11_portOfAddress_52 : decode cX11_portOfAddress 52 = .ok (.aaload, 1) := by decide +kernel
theorem dX11_portOfAddress_53 : decode cX11_portOfAddress 53 = .ok (.goto 4, 3) := by decide +kernel
theorem dX11_portOfAddress_56 : decode cX11_portOfAddress 56 = .ok (.aconst_null, 1) := by decide +kernel
theorem dX11_portOfAddress_57 : decode cX11_portOfAddress 57 = .ok (.areturn, 1) := by decide +kernel
theorem dX11_isNetAddress_0 : decode cX11_isNetAddress 0 = .ok (.iload_n 1, 1) := by decide +kernel
theorem dX11_isNetAddress_1 : decode cX11_isNetAddress 1 = .ok (.bipush 24, 2) := by decide +kernel
theorem dX11_isNetAddress_3 : decode cX11_isNetAddress 3 = .ok (.iushr, 1) := by decide +kernel
theorem dX11_isNetAddress_4 : decode cX11_isNetAddress 4 = .ok (.bipush 10, 2) := by decide +kernel
theorem dX11_isNetAddress_6 : decode cX11_isNetAddress 6 = .ok (.if_icmp .ne 18, 3) := by decide +kernel
theorem dX11_isNetAddress_9 : decode cX11_isNetAddress 9 = .ok (.iload_n 1, 1) := by decide +kernel
theorem dX11_isNetAddress_10 : decode cX11_isNetAddress 10 = .ok (.bipush 16, 2) := by decide +kernel
theorem dX11_isNetAddress_12 : decode cX11_isNetAddress 12 = .ok (.iushr, 1) := by decide +kernel
theorem dX11_isNetAddress_13 : decode cX11_isNetAddress 13 = .ok (.sipush 255, 3) := by decide +kernel
theorem dX11_isNetAddress_16 : decode cX11_isNetAddress 16 = .ok (.iand, 1) := by decide +kernel
theorem dX11_isNetAddress_17 : decode cX11_isNetAddress 17 = .ok (.aload_n 0, 1) := by decide +kernel
theorem dX11_isNetAddress_18 : decode cX11_isNetAddress 18 = .ok (.getfield 85, 3) := by decide +kernel
theorem dX11_isNetAddress_21 : decode cX11_isNetAddress 21 = .ok (.if_icmp .lt 5, 3) := by decide +kernel
theorem dX11_isNetAddress_24 : decode cX11_isNetAddress 24 = .ok (.iconst 0, 1) := by decide +kernel
theorem dX11_isNetAddress_25 : decode cX11_isNetAddress 25 = .ok (.ireturn, 1) := by decide +kernel
theorem dX11_isNetAddress_26 : decode cX11_isNetAddress 26 = .ok (.iload_n 1, 1) := by decide +kernel
theorem dX11_isNetAddress_27 : decode cX11_isNetAddress 27 = .ok (.ldc 230, 2) := by decide +kernel
theorem dX11_isNetAddress_29 : decode cX11_isNetAddress 29 = .ok (.iand, 1) := by decide +kernel
theorem dX11_isNetAddress_30 : decode cX11_isNetAddress 30 = .ok (.istore_n 2, 1) := by decide +kernel
theorem dX11_isNetAddress_31 : decode cX11_isNetAddress 31 = .ok (.iload_n 2, 1) := by decide +kernel
theorem dX11_isNetAddress_32 : decode cX11_isNetAddress 32 = .ok (.iconst 1, 1) := by decide +kernel
theorem dX11_isNetAddress_33 : decode cX11_isNetAddress 33 = .ok (.if_icmp .lt 13, 3) := by decide +kernel
theorem dX11_isNetAddress_36 : decode cX11_isNetAddress 36 = .ok (.iload_n 2, 1) := by decide +kernel
theorem dX11_isNetAddress_37 : decode cX11_isNetAddress 37 = .ok (.bipush 8, 2) := by decide +kernel
theorem dX11_isNetAddress_39 : decode cX11_isNetAddress 39 = .ok (.if_icmp .gt 7, 3) := by decide +kernel
theorem dX11_isNetAddress_42 : decode cX11_isNetAddress 42 = .ok (.iconst 1, 1) := by decide +kernel
theorem dX11_isNetAddress_43 : decode cX11_isNetAddress 43 = .ok (.goto 4, 3) := by decide +kernel
theorem dX11_isNetAddress_46 : decode cX11_isNetAddress 46 = .ok (.iconst 0, 1) := by decide +kernel
theorem dX11_isNetAddress_47 : decode cX11_isNetAddress 47 = .ok (.ireturn, 1) := by decide +kernel
theorem dX11_keyOf_0 : decode cX11_keyOf 0 = .ok (.aload_n 0, 1) := by decide +kernel
theorem dX11_keyOf_1 : decode cX11_keyOf 1 = .ok (.getfield 494, 3) := by decide +kernel
theorem dX11_keyOf_4 : decode cX11_keyOf 4 = .ok (.bipush 16, 2) := by decide +kernel
theorem dX11_keyOf_6 : decode cX11_keyOf 6 = .ok (.imul, 1) := by decide +kernel
theorem dX11_keyOf_7 : decode cX11_keyOf 7 = .ok (.iload_n 1, 1) := by decide +kernel
theorem dX11_keyOf_8 : decode cX11_keyOf 8 = .ok (.iadd, 1) := by decide +kernel
theorem dX11_keyOf_9 : decode cX11_keyOf 9 = .ok (.ireturn, 1) := by decide +kernel
theorem dX11_isBefore_0 : decode cX11_isBefore 0 = .ok (.iload_n 1, 1) := by decide +kernel
theorem dX11_isBefore_1 : decode cX11_isBefore 1 = .ok (.iload_n 0, 1) := by decide +kernel
theorem dX11_isBefore_2 : decode cX11_isBefore 2 = .ok (.isub, 1) := by decide +kernel
theorem dX11_isBefore_3 : decode cX11_isBefore 3 = .ok (.ifCond .le 7, 3) := by decide +kernel
theorem dX11_isBefore_6 : decode cX11_isBefore 6 = .ok (.iconst 1, 1) := by decide +kernel
theorem dX11_isBefore_7 : decode cX11_isBefore 7 = .ok (.goto 4, 3) := by decide +kernel
theorem dX11_isBefore_10 : decode cX11_isBefore 10 = .ok (.iconst 0, 1) := by decide +kernel
theorem dX11_isBefore_11 : decode cX11_isBefore 11 = .ok (.ireturn, 1) := by decide +kernel
theorem dX11_firstNumber_0 : decode cX11_firstNumber 0 = .ok (.ldc_w 497, 3) := by decide +kernel
theorem dX11_firstNumber_3 : decode cX11_firstNumber 3 = .ok (.aload_n 0, 1) := by decide +kernel
theorem dX11_firstNumber_4 : decode cX11_firstNumber 4 = .ok (.getfield 176, 3) := by decide +kernel
theorem dX11_firstNumber_7 : decode cX11_firstNumber 7 = .ok (.imul, 1) := by decide +kernel
theorem dX11_firstNumber_8 : decode cX11_firstNumber 8 = .ok (.sipush 977, 3) := by decide +kernel
theorem dX11_firstNumber_11 : decode cX11_firstNumber 11 = .ok (.aload_n 1, 1) := by decide +kernel
theorem dX11_firstNumber_12 : decode cX11_firstNumber 12 = .ok (.getfield 484, 3) := by decide +kernel
theorem dX11_firstNumber_15 : decode cX11_firstNumber 15 = .ok (.imul, 1) := by decide +kernel
theorem dX11_firstNumber_16 : decode cX11_firstNumber 16 = .ok (.iadd, 1) := by decide +kernel
theorem dX11_firstNumber_17 : decode cX11_firstNumber 17 = .ok (.ireturn, 1) := by decide +kernel
theorem dX11_stir_0 : decode cX11_stir 0 = .ok (.aload_n 0, 1) := by decide +kernel
theorem dX11_stir_1 : decode cX11_stir 1 = .ok (.aload_n 0, 1) := by decide +kernel
theorem dX11_stir_2 : decode cX11_stir 2 = .ok (.getfield 176, 3) := by decide +kernel
theorem dX11_stir_5 : decode cX11_stir 5 = .ok (.putfield 455, 3) := by decide +kernel
theorem dX11_stir_8 : decode cX11_stir 8 = .ok (.return_, 1) := by decide +kernel
theorem dX11_changeWorld_0 : decode cX11_changeWorld 0 = .ok (.aload_n 0, 1) := by decide +kernel
theorem dX11_changeWorld_1 : decode cX11_changeWorld 1 = .ok (.dup, 1) := by decide +kernel
theorem dX11_changeWorld_2 : decode cX11_changeWorld 2 = .ok (.getfield 498, 3) := by decide +kernel
theorem dX11_changeWorld_5 : decode cX11_changeWorld 5 = .ok (.iconst 1, 1) := by decide +kernel
theorem dX11_changeWorld_6 : decode cX11_changeWorld 6 = .ok (.iadd, 1) := by decide +kernel
theorem dX11_changeWorld_7 : decode cX11_changeWorld 7 = .ok (.putfield 498, 3) := by decide +kernel
theorem dX11_changeWorld_10 : decode cX11_changeWorld 10 = .ok (.aload_n 0, 1) := by decide +kernel
theorem dX11_changeWorld_11 : decode cX11_changeWorld 11 = .ok (.invokevirtual 75, 3) := by decide +kernel
theorem dX11_changeWorld_14 : decode cX11_changeWorld 14 = .ok (.return_, 1) := by decide +kernel
theorem dX11_loseAllOn_0 : decode cX11_loseAllOn 0 = .ok (.iconst 0, 1) := by decide +kernel
theorem dX11_loseAllOn_1 : decode cX11_loseAllOn 1 = .ok (.istore_n 2, 1) := by decide +kernel
theorem dX11_loseAllOn_2 : decode cX11_loseAllOn 2 = .ok (.iload_n 2, 1) := by decide +kernel
theorem dX11_loseAllOn_3 : decode cX11_loseAllOn 3 = .ok (.sipush 256, 3) := by decide +kernel
theorem dX11_loseAllOn_6 : decode cX11_loseAllOn 6 = .ok (.if_icmp .ge 92, 3) := by decide +kernel
theorem dX11_loseAllOn_9 : decode cX11_loseAllOn 9 = .ok (.aload_n 0, 1) := by decide +kernel
theorem dX11_loseAllOn_10 : decode cX11_loseAllOn 10 = .ok (.getfield 23, 3) := by decide +kernel
theorem dX11_loseAllOn_13 : decode cX11_loseAllOn 13 = .ok (.iload_n 2, 1) := by decide +kernel
theorem dX11_loseAllOn_14 : decode cX11_loseAllOn 14 = .ok (.aaload, 1) := by decide +kernel
theorem dX11_loseAllOn_15 : decode cX11_loseAllOn 15 = .ok (.astore_n 3, 1) := by decide +kernel
theorem dX11_loseAllOn_16 : decode cX11_loseAllOn 16 = .ok (.aload_n 0, 1) := by decide +kernel
theorem dX11_loseAllOn_17 : decode cX11_loseAllOn 17 = .ok (.getfield 23, 3) := by decide +kernel
theorem dX11_loseAllOn_20 : decode cX11_loseAllOn 20 = .ok (.iload_n 2, 1) := by decide +kernel
theorem dX11_loseAllOn_21 : decode cX11_loseAllOn 21 = .ok (.aconst_null, 1) := by decide +kernel
theorem dX11_loseAllOn_22 : decode cX11_loseAllOn 22 = .ok (.aastore, 1) := by decide +kernel
theorem dX11_loseAllOn_23 : decode cX11_loseAllOn 23 = .ok (.aload_n 0, 1) := by decide +kernel
theorem dX11_loseAllOn_24 : decode cX11_loseAllOn 24 = .ok (.getfield 27, 3) := by decide +kernel
theorem dX11_loseAllOn_27 : decode cX11_loseAllOn 27 = .ok (.iload_n 2, 1) := by decide +kernel
theorem dX11_loseAllOn_28 : decode cX11_loseAllOn 28 = .ok (.aconst_null, 1) := by decide +kernel
theorem dX11_loseAllOn_29 : decode cX11_loseAllOn 29 = .ok (.aastore, 1) := by decide +kernel
theorem dX11_loseAllOn_30 : decode cX11_loseAllOn 30 = .ok (.iconst 0, 1) := by decide +kernel
theorem dX11_loseAllOn_31 : decode cX11_loseAllOn 31 = .ok (.istore 4, 2) := by decide +kernel
theorem dX11_loseAllOn_33 : decode cX11_loseAllOn 33 = .ok (.iload 4, 2) := by decide +kernel
theorem dX11_loseAllOn_35 : decode cX11_loseAllOn 35 = .ok (.sipush 512, 3) := by decide +kernel
theorem dX11_loseAllOn_38 : decode cX11_loseAllOn 38 = .ok (.if_icmp .ge 54, 3) := by decide +kernel
theorem dX11_loseAllOn_41 : decode cX11_loseAllOn 41 = .ok (.aload_n 3, 1) := by decide +kernel
theorem dX11_loseAllOn_42 : decode cX11_loseAllOn 42 = .ok (.ifnull 50, 3) := by decide +kernel
theorem dX11_loseAllOn_45 : decode cX11_loseAllOn 45 = .ok (.aload_n 3, 1) := by decide +kernel
theorem dX11_loseAllOn_46 : decode cX11_loseAllOn 46 = .ok (.getfield 58, 3) := by decide +kernel
theorem dX11_loseAllOn_49 : decode cX11_loseAllOn 49 = .ok (.astore 5, 2) := by decide +kernel
theorem dX11_loseAllOn_51 : decode cX11_loseAllOn 51 = .ok (.aload_n 3, 1) := by decide +kernel
theorem dX11_loseAllOn_52 : decode cX11_loseAllOn 52 = .ok (.getfield 501, 3) := by decide +kernel
theorem dX11_loseAllOn_55 : decode cX11_loseAllOn 55 = .ok (.iload_n 1, 1) := by decide +kernel
theorem dX11_loseAllOn_56 : decode cX11_loseAllOn 56 = .ok (.if_icmp .ne 21, 3) := by decide +kernel
theorem dX11_loseAllOn_59 : decode cX11_loseAllOn 59 = .ok (.aload_n 0, 1) := by decide +kernel
theorem dX11_loseAllOn_60 : decode cX11_loseAllOn 60 = .ok (.dup, 1) := by decide +kernel
theorem dX11_loseAllOn_61 : decode cX11_loseAllOn 61 = .ok (.getfield 442, 3) := by decide +kernel
theorem dX11_loseAllOn_64 : decode cX11_loseAllOn 64 = .ok (.iconst 1, 1) := by decide +kernel
theorem dX11_loseAllOn_65 : decode cX11_loseAllOn 65 = .ok (.isub, 1) := by decide +kernel
theorem dX11_loseAllOn_66 : decode cX11_loseAllOn 66 = .ok (.putfield 442, 3) := by decide +kernel
theorem dX11_loseAllOn_69 : decode cX11_loseAllOn 69 = .ok (.aload_n 0, 1) := by decide +kernel
theorem dX11_loseAllOn_70 : decode cX11_loseAllOn 70 = .ok (.aload_n 3, 1) := by decide +kernel
theorem dX11_loseAllOn_71 : decode cX11_loseAllOn 71 = .ok (.invokevirtual 504, 3) := by decide +kernel
theorem dX11_loseAllOn_74 : decode cX11_loseAllOn 74 = .ok (.goto 9, 3) := by decide +kernel
theorem dX11_loseAllOn_77 : decode cX11_loseAllOn 77 = .ok (.aload_n 0, 1) := by decide +kernel
theorem dX11_loseAllOn_78 : decode cX11_loseAllOn 78 = .ok (.aload_n 3, 1) := by decide +kernel
theorem dX11_loseAllOn_79 : decode cX11_loseAllOn 79 = .ok (.iload_n 2, 1) := by decide +kernel
theorem dX11_loseAllOn_80 : decode cX11_loseAllOn 80 = .ok (.invokevirtual 508, 3) := by decide +kernel
theorem dX11_loseAllOn_83 : decode cX11_loseAllOn 83 = .ok (.aload 5, 2) := by decide +kernel
theorem dX11_loseAllOn_85 : decode cX11_loseAllOn 85 = .ok (.astore_n 3, 1) := by decide +kernel
theorem dX11_loseAllOn_86 : decode cX11_loseAllOn 86 = .ok (.iinc 4 1, 3) := by decide +kernel
theorem dX11_loseAllOn_89 : decode cX11_loseAllOn 89 = .ok (.goto (-56), 3) := by decide +kernel
theorem dX11_loseAllOn_92 : decode cX11_loseAllOn 92 = .ok (.iinc 2 1, 3) := by decide +kernel
theorem dX11_loseAllOn_95 : decode cX11_loseAllOn 95 = .ok (.goto (-93), 3) := by decide +kernel
theorem dX11_loseAllOn_98 : decode cX11_loseAllOn 98 = .ok (.return_, 1) := by decide +kernel
theorem dX11_giveBack_0 : decode cX11_giveBack 0 = .ok (.aload_n 1, 1) := by decide +kernel
theorem dX11_giveBack_1 : decode cX11_giveBack 1 = .ok (.aload_n 0, 1) := by decide +kernel
theorem dX11_giveBack_2 : decode cX11_giveBack 2 = .ok (.getfield 55, 3) := by decide +kernel
theorem dX11_giveBack_5 : decode cX11_giveBack 5 = .ok (.putfield 58, 3) := by decide +kernel
theorem dX11_giveBack_8 : decode cX11_giveBack 8 = .ok (.aload_n 0, 1) := by decide +kernel
theorem dX11_giveBack_9 : decode cX11_giveBack 9 = .ok (.aload_n 1, 1) := by decide +kernel
theorem dX11_giveBack_10 : decode cX11_giveBack 10 = .ok (.putfield 55, 3) := by decide +kernel
theorem dX11_giveBack_13 : decode cX11_giveBack 13 = .ok (.return_, 1) := by decide +kernel
theorem dX11_hangIn_0 : decode cX11_hangIn 0 = .ok (.aload_n 1, 1) := by decide +kernel
theorem dX11_hangIn_1 : decode cX11_hangIn 1 = .ok (.aconst_null, 1) := by decide +kernel
theorem dX11_hangIn_2 : decode cX11_hangIn 2 = .ok (.putfield 58, 3) := by decide +kernel
theorem dX11_hangIn_5 : decode cX11_hangIn 5 = .ok (.aload_n 0, 1) := by decide +kernel
theorem dX11_hangIn_6 : decode cX11_hangIn 6 = .ok (.getfield 27, 3) := by decide +kernel
theorem dX11_hangIn_9 : decode cX11_hangIn 9 = .ok (.iload_n 2, 1) := by decide +kernel
theorem dX11_hangIn_10 : decode cX11_hangIn 10 = .ok (.aaload, 1) := by decide +kernel
theorem dX11_hangIn_11 : decode cX11_hangIn 11 = .ok (.astore_n 3, 1) := by decide +kernel
theorem dX11_hangIn_12 : decode cX11_hangIn 12 = .ok (.aload_n 3, 1) := by decide +kernel
theorem dX11_hangIn_13 : decode cX11_hangIn 13 = .ok (.ifnonnull 13, 3) := by decide +kernel
theorem dX11_hangIn_16 : decode cX11_hangIn 16 = .ok (.aload_n 0, 1) := by decide +kernel
theorem dX11_hangIn_17 : decode cX11_hangIn 17 = .ok (.getfield 23, 3) := by decide +kernel
theorem dX11_hangIn_20 : decode cX11_hangIn 20 = .ok (.iload_n 2, 1) := by decide +kernel
theorem dX11_hangIn_21 : decode cX11_hangIn 21 = .ok (.aload_n 1, 1) := by decide +kernel
theorem dX11_hangIn_22 : decode cX11_hangIn 22 = .ok (.aastore, 1) := by decide +kernel
theorem dX11_hangIn_23 : decode cX11_hangIn 23 = .ok (.goto 8, 3) := by decide +kernel
theorem dX11_hangIn_26 : decode cX11_hangIn 26 = .ok (.aload_n 3, 1) := by decide +kernel
theorem dX11_hangIn_27 : decode cX11_hangIn 27 = .ok (.aload_n 1, 1) := by decide +kernel
theorem dX11_hangIn_28 : decode cX11_hangIn 28 = .ok (.putfield 58, 3) := by decide +kernel
theorem dX11_hangIn_31 : decode cX11_hangIn 31 = .ok (.aload_n 0, 1) := by decide +kernel
theorem dX11_hangIn_32 : decode cX11_hangIn 32 = .ok (.getfield 27, 3) := by decide +kernel
theorem dX11_hangIn_35 : decode cX11_hangIn 35 = .ok (.iload_n 2, 1) := by decide +kernel
theorem dX11_hangIn_36 : decode cX11_hangIn 36 = .ok (.aload_n 1, 1) := by decide +kernel
theorem dX11_hangIn_37 : decode cX11_hangIn 37 = .ok (.aastore, 1) := by decide +kernel
theorem dX11_hangIn_38 : decode cX11_hangIn 38 = .ok (.return_, 1) := by decide +kernel
theorem dX11_putFrame_0 : decode cX11_putFrame 0 = .ok (.aload_n 1, 1) := by decide +kernel
theorem dX11_putFrame_1 : decode cX11_putFrame 1 = .ok (.getfield 261, 3) := by decide +kernel
theorem dX11_putFrame_4 : decode cX11_putFrame 4 = .ok (.astore 6, 2) := by decide +kernel
theorem dX11_putFrame_6 : decode cX11_putFrame 6 = .ok (.aload 6, 2) := by decide +kernel
theorem dX11_putFrame_8 : decode cX11_putFrame 8 = .ok (.dup, 1) := by decide +kernel
theorem dX11_putFrame_9 : decode cX11_putFrame 9 = .ok (.getfield 431, 3) := by decide +kernel
theorem dX11_putFrame_12 : decode cX11_putFrame 12 = .ok (.iconst 1, 1) := by decide +kernel
theorem dX11_putFrame_13 : decode cX11_putFrame 13 = .ok (.iadd, 1) := by decide +kernel
theorem dX11_putFrame_14 : decode cX11_putFrame 14 = .ok (.putfield 431, 3) := by decide +kernel
theorem dX11_putFrame_17 : decode cX11_putFrame 17 = .ok (.aload 6, 2) := by decide +kernel
theorem dX11_putFrame_19 : decode cX11_putFrame 19 = .ok (.getfield 158, 3) := by decide +kernel
theorem dX11_putFrame_22 : decode cX11_putFrame 22 = .ok (.ifCond .ne 4, 3) := by decide +kernel
theorem dX11_putFrame_25 : decode cX11_putFrame 25 = .ok (.return_, 1) := by decide +kernel
theorem dX11_putFrame_26 : decode cX11_putFrame 26 = .ok (.aload 6, 2) := by decide +kernel
theorem dX11_putFrame_28 : decode cX11_putFrame 28 = .ok (.invokevirtual 512, 3) := by decide +kernel
theorem dX11_putFrame_31 : decode cX11_putFrame 31 = .ok (.istore 7, 2) := by decide +kernel
theorem dX11_putFrame_33 : decode cX11_putFrame 33 = .ok (.iload 7, 2) := by decide +kernel
theorem dX11_putFrame_35 : decode cX11_putFrame 35 = .ok (.ifCond .eq 7, 3) := by decide +kernel
theorem dX11_putFrame_38 : decode cX11_putFrame 38 = .ok (.aload_n 0, 1) := by decide +kernel
theorem dX11_putFrame_39 : decode cX11_putFrame 39 = .ok (.invokevirtual 75, 3) := by decide +kernel
theorem dX11_putFrame_42 : decode cX11_putFrame 42 = .ok (.iload 7, 2) := by decide +kernel
theorem dX11_putFrame_44 : decode cX11_putFrame 44 = .ok (.iconst 1, 1) := by decide +kernel
theorem dX11_putFrame_45 : decode cX11_putFrame 45 = .ok (.if_icmp .ne 4, 3) := by decide +kernel
theorem dX11_putFrame_48 : decode cX11_putFrame 48 = .ok (.return_, 1) := by decide +kernel
theorem dX11_putFrame_49 : decode cX11_putFrame 49 = .ok (.iload 7, 2) := by decide +kernel
theorem dX11_putFrame_51 : decode cX11_putFrame 51 = .ok (.iconst 2, 1) := by decide +kernel
theorem dX11_putFrame_52 : decode cX11_putFrame 52 = .ok (.if_icmp .ne 7, 3) := by decide +kernel
theorem dX11_putFrame_55 : decode cX11_putFrame 55 = .ok (.iconst 2, 1) := by decide +kernel
theorem dX11_putFrame_56 : decode cX11_putFrame 56 = .ok (.goto 4, 3) := by decide +kernel
theorem dX11_putFrame_59 : decode cX11_putFrame 59 = .ok (.iconst 1, 1) := by decide +kernel
theorem dX11_putFrame_60 : decode cX11_putFrame 60 = .ok (.istore 8, 2) := by decide +kernel
theorem dX11_putFrame_62 : decode cX11_putFrame 62 = .ok (.aload_n 0, 1) := by decide +kernel
theorem dX11_putFrame_63 : decode cX11_putFrame 63 = .ok (.getfield 442, 3) := by decide +kernel
theorem dX11_putFrame_66 : decode cX11_putFrame 66 = .ok (.iload 8, 2) := by decide +kernel
theorem dX11_putFrame_68 : decode cX11_putFrame 68 = .ok (.iadd, 1) := by decide +kernel
theorem dX11_putFrame_69 : decode cX11_putFrame 69 = .ok (.sipush 512, 3) := by decide +kernel
theorem dX11_putFrame_72 : decode cX11_putFrame 72 = .ok (.if_icmp .le 8, 3) := by decide +kernel
theorem dX11_putFrame_75 : decode cX11_putFrame 75 = .ok (.aload_n 0, 1) := by decide +kernel
theorem dX11_putFrame_76 : decode cX11_putFrame 76 = .ok (.invokevirtual 75, 3) := by decide +kernel
theorem dX11_putFrame_79 : decode cX11_putFrame 79 = .ok (.return_, 1) := by decide +kernel
theorem dX11_putFrame_80 : decode cX11_putFrame 80 = .ok (.iload 7, 2) := by decide +kernel
theorem dX11_putFrame_82 : decode cX11_putFrame 82 = .ok (.iconst 3, 1) := by decide +kernel
theorem dX11_putFrame_83 : decode cX11_putFrame 83 = .ok (.if_icmp .ne 13, 3) := by decide +kernel
theorem dX11_putFrame_86 : decode cX11_putFrame 86 = .ok (.iconst 4, 1) := by decide +kernel
theorem dX11_putFrame_87 : decode cX11_putFrame 87 = .ok (.aload 6, 2) := by decide +kernel
theorem dX11_putFrame_89 : decode cX11_putFrame 89 = .ok (.getfield 93, 3) := by decide +kernel
theorem dX11_putFrame_92 : decode cX11_putFrame 92 = .ok (.imul, 1) := by decide +kernel
theorem dX11_putFrame_93 : decode cX11_putFrame 93 = .ok (.goto 8, 3) := by decide +kernel
theorem dX11_putFrame_96 : decode cX11_putFrame 96 = .ok (.aload 6, 2) := by decide +kernel
theorem dX11_putFrame_98 : decode cX11_putFrame 98 = .ok (.getfield 93, 3) := by decide +kernel
theorem dX11_putFrame_101 : decode cX11_putFrame 101 = .ok (.istore 9, 2) := by decide +kernel
theorem dX11_putFrame_103 : decode cX11_putFrame 103 = .ok (.iconst 0, 1) := by decide +kernel
theorem dX11_putFrame_104 : decode cX11_putFrame 104 = .ok (.istore 10, 2) := by decide +kernel
theorem dX11_putFrame_106 : decode cX11_putFrame 106 = .ok (.iload 10, 2) := by decide +kernel
theorem dX11_putFrame_108 : decode cX11_putFrame 108 = .ok (.iload 8, 2) := by decide +kernel
theorem dX11_putFrame_110 : decode cX11_putFrame 110 = .ok (.if_icmp .ge 102, 3) := by decide +kernel
theorem dX11_putFrame_113 : decode cX11_putFrame 113 = .ok (.aload_n 0, 1) := by decide +kernel
theorem dX11_putFrame_114 : decode cX11_putFrame 114 = .ok (.getfield 55, 3) := by decide +kernel
theorem dX11_putFrame_117 : decode cX11_putFrame 117 = .ok (.ifnull 95, 3) := by decide +kernel
theorem dX11_putFrame_120 : decode cX11_putFrame 120 = .ok (.aload_n 0, 1) := by decide +kernel
theorem dX11_putFrame_121 : decode cX11_putFrame 121 = .ok (.getfield 55, 3) := by decide +kernel
theorem dX11_putFrame_124 : decode cX11_putFrame 124 = .ok (.astore 11, 2) := by decide +kernel
theorem dX11_putFrame_126 : decode cX11_putFrame 126 = .ok (.aload_n 0, 1) := by decide +kernel
theorem dX11_putFrame_127 : decode cX11_putFrame 127 = .ok (.aload 11, 2) := by decide +kernel
theorem dX11_putFrame_129 : decode cX11_putFrame 129 = .ok (.getfield 58, 3) := by decide +kernel
theorem dX11_putFrame_132 : decode cX11_putFrame 132 = .ok (.putfield 55, 3) := by decide +kernel
theorem dX11_putFrame_135 : decode cX11_putFrame 135 = .ok (.aload 11, 2) := by decide +kernel
theorem dX11_putFrame_137 : decode cX11_putFrame 137 = .ok (.aload_n 3, 1) := by decide +kernel
theorem dX11_putFrame_138 : decode cX11_putFrame 138 = .ok (.iload 4, 2) := by decide +kernel
theorem dX11_putFrame_140 : decode cX11_putFrame 140 = .ok (.iload 5, 2) := by decide +kernel
theorem dX11_putFrame_142 : decode cX11_putFrame 142 = .ok (.invokevirtual 515, 3) := by decide +kernel
theorem dX11_putFrame_145 : decode cX11_putFrame 145 = .ok (.aload 11, 2) := by decide +kernel
theorem dX11_putFrame_147 : decode cX11_putFrame 147 = .ok (.aload 6, 2) := by decide +kernel
theorem dX11_putFrame_149 : decode cX11_putFrame 149 = .ok (.getfield 478, 3) := by decide +kernel
theorem dX11_putFrame_152 : decode cX11_putFrame 152 = .ok (.putfield 501, 3) := by decide +kernel
theorem dX11_putFrame_155 : decode cX11_putFrame 155 = .ok (.aload 11, 2) := by decide +kernel
theorem dX11_putFrame_157 : decode cX11_putFrame 157 = .ok (.aload_n 1, 1) := by decide +kernel
theorem dX11_putFrame_158 : decode cX11_putFrame 158 = .ok (.getfield 519, 3) := by decide +kernel
theorem dX11_putFrame_161 : decode cX11_putFrame 161 = .ok (.putfield 522, 3) := by decide +kernel
theorem dX11_putFrame_164 : decode cX11_putFrame 164 = .ok (.aload 11, 2) := by decide +kernel
theorem dX11_putFrame_166 : decode cX11_putFrame 166 = .ok (.iload_n 2, 1) := by decide +kernel
theorem dX11_putFrame_167 : decode cX11_putFrame 167 = .ok (.putfield 525, 3) := by decide +kernel
theorem dX11_putFrame_170 : decode cX11_putFrame 170 = .ok (.aload_n 0, 1) := by decide +kernel
theorem dX11_putFrame_171 : decode cX11_putFrame 171 = .ok (.aload 11, 2) := by decide +kernel
theorem dX11_putFrame_173 : decode cX11_putFrame 173 = .ok (.aload_n 0, 1) := by decide +kernel
theorem dX11_putFrame_174 : decode cX11_putFrame 174 = .ok (.getfield 176, 3) := by decide +kernel
theorem dX11_putFrame_177 : decode cX11_putFrame 177 = .ok (.iload 9, 2) := by decide +kernel
theorem dX11_putFrame_179 : decode cX11_putFrame 179 = .ok (.iadd, 1) := by decide +kernel
theorem dX11_putFrame_180 : decode cX11_putFrame 180 = .ok (.sipush 255, 3) := by decide +kernel
theorem dX11_putFrame_183 : decode cX11_putFrame 183 = .ok (.iand, 1) := by decide +kernel
theorem dX11_putFrame_184 : decode cX11_putFrame 184 = .ok (.invokevirtual 508, 3) := by decide +kernel
theorem dX11_putFrame_187 : decode cX11_putFrame 187 = .ok (.aload_n 0, 1) := by decide +kernel
theorem dX11_putFrame_188 : decode cX11_putFrame 188 = .ok (.dup, 1) := by decide +kernel
theorem dX11_putFrame_189 : decode cX11_putFrame 189 = .ok (.getfield 442, 3) := by decide +kernel
theorem dX11_putFrame_192 : decode cX11_putFrame 192 = .ok (.iconst 1, 1) := by decide +kernel
theorem dX11_putFrame_193 : decode cX11_putFrame 193 = .ok (.iadd, 1) := by decide +kernel
theorem dX11_putFrame_194 : decode cX11_putFrame 194 = .ok (.putfield 442, 3) := by decide +kernel
theorem dX11_putFrame_197 : decode cX11_putFrame 197 = .ok (.iconst 3, 1) := by decide +kernel
theorem dX11_putFrame_198 : decode cX11_putFrame 198 = .ok (.aload 6, 2) := by decide +kernel
theorem dX11_putFrame_200 : decode cX11_putFrame 200 = .ok (.getfield 93, 3) := by decide +kernel
theorem dX11_putFrame_203 : decode cX11_putFrame 203 = .ok (.imul, 1) := by decide +kernel
theorem dX11_putFrame_204 : decode cX11_putFrame 204 = .ok (.istore 9, 2) := by decide +kernel
theorem dX11_putFrame_206 : decode cX11_putFrame 206 = .ok (.iinc 10 1, 3) := by decide +kernel
theorem dX11_putFrame_209 : decode cX11_putFrame 209 = .ok (.goto (-103), 3) := by decide +kernel
theorem dX11_putFrame_212 : decode cX11_putFrame 212 = .ok (.return_, 1) := by decide +kernel
theorem dX11_putOn_0 : decode cX11_putOn 0 = .ok (.aload_n 1, 1) := by decide +kernel
theorem dX11_putOn_1 : decode cX11_putOn 1 = .ok (.getfield 261, 3) := by decide +kernel
theorem dX11_putOn_4 : decode cX11_putOn 4 = .ok (.getfield 90, 3) := by decide +kernel
theorem dX11_putOn_7 : decode cX11_putOn 7 = .ok (.bipush 20, 2) := by decide +kernel
theorem dX11_putOn_9 : decode cX11_putOn 9 = .ok (.isub, 1) := by decide +kernel
theorem dX11_putOn_10 : decode cX11_putOn 10 = .ok (.istore 4, 2) := by decide +kernel
theorem dX11_putOn_12 : decode cX11_putOn 12 = .ok (.aload_n 3, 1) := by decide +kernel
theorem dX11_putOn_13 : decode cX11_putOn 13 = .ok (.getfield 528, 3) := by decide +kernel
theorem dX11_putOn_16 : decode cX11_putOn 16 = .ok (.iload 4, 2) := by decide +kernel
theorem dX11_putOn_18 : decode cX11_putOn 18 = .ok (.if_icmp .gt 16, 3) := by decide +kernel
theorem dX11_putOn_21 : decode cX11_putOn 21 = .ok (.aload_n 0, 1) := by decide +kernel
theorem dX11_putOn_22 : decode cX11_putOn 22 = .ok (.aload_n 1, 1) := by decide +kernel
theorem dX11_putOn_23 : decode cX11_putOn 23 = .ok (.iload_n 2, 1) := by decide +kernel
theorem dX11_putOn_24 : decode cX11_putOn 24 = .ok (.aload_n 3, 1) := by decide +kernel
theorem dX11_putOn_25 : decode cX11_putOn 25 = .ok (.iconst 0, 1) := by decide +kernel
theorem dX11_putOn_26 : decode cX11_putOn 26 = .ok (.aload_n 3, 1) := by decide +kernel
theorem dX11_putOn_27 : decode cX11_putOn 27 = .ok (.getfield 528, 3) := by decide +kernel
theorem dX11_putOn_30 : decode cX11_putOn 30 = .ok (.invokevirtual 529, 3) := by decide +kernel
theorem dX11_putOn_33 : decode cX11_putOn 33 = .ok (.return_, 1) := by decide +kernel
theorem dX11_putOn_34 : decode cX11_putOn 34 = .ok (.bipush 8, 2) := by decide +kernel
theorem dX11_putOn_36 : decode cX11_putOn 36 = .ok (.iload 4, 2) := by decide +kernel
theorem dX11_putOn_38 : decode cX11_putOn 38 = .ok (.bipush 8, 2) := by decide +kernel
theorem dX11_putOn_40 : decode cX11_putOn 40 = .ok (.idiv, 1) := by decide +kernel
theorem dX11_putOn_41 : decode cX11_putOn 41 = .ok (.bipush 8, 2) := by decide +kernel
theorem dX11_putOn_43 : decode cX11_putOn 43 = .ok (.imul, 1) := by decide +kernel
theorem dX11_putOn_44 : decode cX11_putOn 44 = .ok (.invokestatic 464, 3) := by decide +kernel
theorem dX11_putOn_47 : decode cX11_putOn 47 = .ok (.istore 5, 2) := by decide +kernel
theorem dX11_putOn_49 : decode cX11_putOn 49 = .ok (.iconst 0, 1) := by decide +kernel
theorem dX11_putOn_50 : decode cX11_putOn 50 = .ok (.istore 6, 2) := by decide +kernel
theorem dX11_putOn_52 : decode cX11_putOn 52 = .ok (.iload 6, 2) := by decide +kernel
theorem dX11_putOn_54 : decode cX11_putOn 54 = .ok (.aload_n 3, 1) := by decide +kernel
theorem dX11_putOn_55 : decode cX11_putOn 55 = .ok (.getfield 528, 3) := by decide +kernel
theorem dX11_putOn_58 : decode cX11_putOn 58 = .ok (.if_icmp .ge 47, 3) := by decide +kernel
theorem dX11_putOn_61 : decode cX11_putOn 61 = .ok (.aload_n 1, 1) := by decide +kernel
theorem dX11_putOn_62 : decode cX11_putOn 62 = .ok (.getfield 474, 3) := by decide +kernel
theorem dX11_putOn_65 : decode cX11_putOn 65 = .ok (.getfield 439, 3) := by decide +kernel
theorem dX11_putOn_68 : decode cX11_putOn 68 = .ok (.iconst 5, 1) := by decide +kernel
theorem dX11_putOn_69 : decode cX11_putOn 69 = .ok (.dup2, 1) := by decide +kernel
theorem dX11_putOn_70 : decode cX11_putOn 70 = .ok (.iaload, 1) := by decide +kernel
theorem dX11_putOn_71 : decode cX11_putOn 71 = .ok (.iconst 1, 1) := by decide +kernel
theorem dX11_putOn_72 : decode cX11_putOn 72 = .ok (.iadd, 1) := by decide +kernel
theorem dX11_putOn_73 : decode cX11_putOn 73 = .ok (.iastore, 1) := by decide +kernel
theorem dX11_putOn_74 : decode cX11_putOn 74 = .ok (.aload_n 0, 1) := by decide +kernel
theorem dX11_putOn_75 : decode cX11_putOn 75 = .ok (.aload_n 1, 1) := by decide +kernel
theorem dX11_putOn_76 : decode cX11_putOn 76 = .ok (.iload_n 2, 1) := by decide +kernel
theorem dX11_putOn_77 : decode cX11_putOn 77 = .ok (.aload_n 3, 1) := by decide +kernel
theorem dX11_putOn_78 : decode cX11_putOn 78 = .ok (.iload 6, 2) := by decide +kernel
theorem dX11_putOn_80 : decode cX11_putOn 80 = .ok (.iload 5, 2) := by decide +kernel
theorem dX11_putOn_82 : decode cX11_putOn 82 = .ok (.aload_n 3, 1) := by decide +kernel
theorem dX11_putOn_83 : decode cX11_putOn 83 = .ok (.getfield 528, 3) := by decide +kernel
theorem dX11_putOn_86 : decode cX11_putOn 86 = .ok (.iload 6, 2) := by decide +kernel
theorem dX11_putOn_88 : decode cX11_putOn 88 = .ok (.isub, 1) := by decide +kernel
theorem dX11_putOn_89 : decode cX11_putOn 89 = .ok (.invokestatic 310, 3) := by decide +kernel
theorem dX11_putOn_92 : decode cX11_putOn 92 = .ok (.invokevirtual 529, 3) := by decide +kernel
theorem dX11_putOn_95 : decode cX11_putOn 95 = .ok (.iload 6, 2) := by decide +kernel
theorem dX11_putOn_97 : decode cX11_putOn 97 = .ok (.iload 5, 2) := by decide +kernel
theorem dX11_putOn_99 : decode cX11_putOn 99 = .ok (.iadd, 1) := by decide +kernel
theorem dX11_putOn_100 : decode cX11_putOn 100 = .ok (.istore 6, 2) := by decide +kernel
theorem dX11_putOn_102 : decode cX11_putOn 102 = .ok (.goto (-50), 3) := by decide +kernel
theorem dX11_putOn_105 : decode cX11_putOn 105 = .ok (.return_, 1) := by decide +kernel
theorem dX11_putNote_0 : decode cX11_putNote 0 = .ok (.aload_n 0, 1) := by decide +kernel
theorem dX11_putNote_1 : decode cX11_putNote 1 = .ok (.getfield 35, 3) := by decide +kernel
theorem dX11_putNote_4 : decode cX11_putNote 4 = .ok (.iload_n 3, 1) := by decide +kernel
theorem dX11_putNote_5 : decode cX11_putNote 5 = .ok (.bipush 28, 2) := by decide +kernel
theorem dX11_putNote_7 : decode cX11_putNote 7 = .ok (.invokevirtual 533, 3) := by decide +kernel
theorem dX11_putNote_10 : decode cX11_putNote 10 = .ok (.aload_n 0, 1) := by decide +kernel
theorem dX11_putNote_11 : decode cX11_putNote 11 = .ok (.getfield 35, 3) := by decide +kernel
theorem dX11_putNote_14 : decode cX11_putNote 14 = .ok (.aload_n 1, 1) := by decide +kernel
theorem dX11_putNote_15 : decode cX11_putNote 15 = .ok (.getfield 141, 3) := by decide +kernel
theorem dX11_putNote_18 : decode cX11_putNote 18 = .ok (.putfield 535, 3) := by decide +kernel
theorem dX11_putNote_21 : decode cX11_putNote 21 = .ok (.aload_n 0, 1) := by decide +kernel
theorem dX11_putNote_22 : decode cX11_putNote 22 = .ok (.getfield 35, 3) := by decide +kernel
theorem dX11_putNote_25 : decode cX11_putNote 25 = .ok (.iload 4, 2) := by decide +kernel
theorem dX11_putNote_27 : decode cX11_putNote 27 = .ok (.putfield 538, 3) := by decide +kernel
theorem dX11_putNote_30 : decode cX11_putNote 30 = .ok (.aload_n 0, 1) := by decide +kernel
theorem dX11_putNote_31 : decode cX11_putNote 31 = .ok (.aload_n 1, 1) := by decide +kernel
theorem dX11_putNote_32 : decode cX11_putNote 32 = .ok (.iload_n 2, 1) := by decide +kernel
theorem dX11_putNote_33 : decode cX11_putNote 33 = .ok (.aload_n 0, 1) := by decide +kernel
theorem dX11_putNote_34 : decode cX11_putNote 34 = .ok (.getfield 35, 3) := by decide +kernel
theorem dX11_putNote_37 : decode cX11_putNote 37 = .ok (.iconst 0, 1) := by decide +kernel
theorem dX11_putNote_38 : decode cX11_putNote 38 = .ok (.aload_n 0, 1) := by decide +kernel
theorem dX11_putNote_39 : decode cX11_putNote 39 = .ok (.getfield 35, 3) := by decide +kernel
theorem dX11_putNote_42 : decode cX11_putNote 42 = .ok (.getfield 528, 3) := by decide +kernel
theorem dX11_putNote_45 : decode cX11_putNote 45 = .ok (.invokevirtual 529, 3) := by decide +kernel
theorem dX11_putNote_48 : decode cX11_putNote 48 = .ok (.return_, 1) := by decide +kernel
theorem dX11_hand_0 : decode cX11_hand 0 = .ok (.aload_n 1, 1) := by decide +kernel
theorem dX11_hand_1 : decode cX11_hand 1 = .ok (.iload_n 2, 1) := by decide +kernel
theorem dX11_hand_2 : decode cX11_hand 2 = .ok (.aload_n 0, 1) := by decide +kernel
theorem dX11_hand_3 : decode cX11_hand 3 = .ok (.getfield 176, 3) := by decide +kernel
theorem dX11_hand_6 : decode cX11_hand 6 = .ok (.invokevirtual 541, 3) := by decide +kernel
theorem dX11_hand_9 : decode cX11_hand 9 = .ok (.ifCond .eq 11, 3) := by decide +kernel
theorem dX11_hand_12 : decode cX11_hand 12 = .ok (.aload_n 0, 1) := by decide +kernel
theorem dX11_hand_13 : decode cX11_hand 13 = .ok (.aload_n 1, 1) := by decide +kernel
theorem dX11_hand_14 : decode cX11_hand 14 = .ok (.iload_n 2, 1) := by decide +kernel
theorem dX11_hand_15 : decode cX11_hand 15 = .ok (.aload_n 3, 1) := by decide +kernel
theorem dX11_hand_16 : decode cX11_hand 16 = .ok (.invokevirtual 545, 3) := by decide +kernel
theorem dX11_hand_19 : decode cX11_hand 19 = .ok (.return_, 1) := by decide +kernel
theorem dX11_hand_20 : decode cX11_hand 20 = .ok (.aload_n 1, 1) := by decide +kernel
theorem dX11_hand_21 : decode cX11_hand 21 = .ok (.iload_n 2, 1) := by decide +kernel
theorem dX11_hand_22 : decode cX11_hand 22 = .ok (.invokevirtual 549, 3) := by decide +kernel
theorem dX11_hand_25 : decode cX11_hand 25 = .ok (.ifCond .ne 27, 3) := by decide +kernel
theorem dX11_hand_28 : decode cX11_hand 28 = .ok (.aload_n 1, 1) := by decide +kernel
theorem dX11_hand_29 : decode cX11_hand 29 = .ok (.iload_n 2, 1) := by decide +kernel
theorem dX11_hand_30 : decode cX11_hand 30 = .ok (.aload_n 0, 1) := by decide +kernel
theorem dX11_hand_31 : decode cX11_hand 31 = .ok (.getfield 176, 3) := by decide +kernel
theorem dX11_hand_34 : decode cX11_hand 34 = .ok (.invokevirtual 552, 3) := by decide +kernel
theorem dX11_hand_37 : decode cX11_hand 37 = .ok (.aload_n 0, 1) := by decide +kernel
theorem dX11_hand_38 : decode cX11_hand 38 = .ok (.aload_n 1, 1) := by decide +kernel
theorem dX11_hand_39 : decode cX11_hand 39 = .ok (.iconst (-1), 1) := by decide +kernel
theorem dX11_hand_40 : decode cX11_hand 40 = .ok (.iconst 5, 1) := by decide +kernel
theorem dX11_hand_41 : decode cX11_hand 41 = .ok (.aload_n 1, 1) := by decide +kernel
theorem dX11_hand_42 : decode cX11_hand 42 = .ok (.getfield 261, 3) := by decide +kernel
theorem dX11_hand_45 : decode cX11_hand 45 = .ok (.iload_n 2, 1) := by decide +kernel
theorem dX11_hand_46 : decode cX11_hand 46 = .ok (.invokevirtual 555, 3) := by decide +kernel
theorem dX11_hand_49 : decode cX11_hand 49 = .ok (.invokevirtual 558, 3) := by decide +kernel
theorem dX11_hand_52 : decode cX11_hand 52 = .ok (.aload_n 1, 1) := by decide +kernel
theorem dX11_hand_53 : decode cX11_hand 53 = .ok (.aload_n 3, 1) := by decide +kernel
theorem dX11_hand_54 : decode cX11_hand 54 = .ok (.iload_n 2, 1) := by decide +kernel
theorem dX11_hand_55 : decode cX11_hand 55 = .ok (.invokevirtual 562, 3) := by decide +kernel
theorem dX11_hand_58 : decode cX11_hand 58 = .ok (.aload_n 1, 1) := by decide +kernel
theorem dX11_hand_59 : decode cX11_hand 59 = .ok (.getfield 565, 3) := by decide +kernel
theorem dX11_hand_62 : decode cX11_hand 62 = .ok (.bipush 16, 2) := by decide +kernel
theorem dX11_hand_64 : decode cX11_hand 64 = .ok (.if_icmp .le 35, 3) := by decide +kernel
theorem dX11_hand_67 : decode cX11_hand 67 = .ok (.aload_n 1, 1) := by decide +kernel
theorem dX11_hand_68 : decode cX11_hand 68 = .ok (.iconst 0, 1) := by decide +kernel
theorem dX11_hand_69 : decode cX11_hand 69 = .ok (.invokevirtual 568, 3) := by decide +kernel
theorem dX11_hand_72 : decode cX11_hand 72 = .ok (.astore 4, 2) := by decide +kernel
theorem dX11_hand_74 : decode cX11_hand 74 = .ok (.aload_n 1, 1) := by decide +kernel
theorem dX11_hand_75 : decode cX11_hand 75 = .ok (.aload 4, 2) := by decide +kernel
theorem dX11_hand_77 : decode cX11_hand 77 = .ok (.getfield 525, 3) := by decide +kernel
theorem dX11_hand_80 : decode cX11_hand 80 = .ok (.invokevirtual 572, 3) := by decide +kernel
theorem dX11_hand_83 : decode cX11_hand 83 = .ok (.ifCond .ge 12, 3) := by decide +kernel
theorem dX11_hand_86 : decode cX11_hand 86 = .ok (.aload_n 1, 1) := by decide +kernel
theorem dX11_hand_87 : decode cX11_hand 87 = .ok (.aload 4, 2) := by decide +kernel
theorem dX11_hand_89 : decode cX11_hand 89 = .ok (.getfield 525, 3) := by decide +kernel
theorem dX11_hand_92 : decode cX11_hand 92 = .ok (.invokevirtual 575, 3) := by decide +kernel
theorem dX11_hand_95 : decode cX11_hand 95 = .ok (.aload_n 0, 1) := by decide +kernel
theorem dX11_hand_96 : decode cX11_hand 96 = .ok (.invokevirtual 75, 3) := by decide +kernel
theorem dX11_hand_99 : decode cX11_hand 99 = .ok (.return_, 1) := by decide +kernel
