theorem dX19_dropSegment_0 : decode cX19_dropSegment 0 = .ok (.aload_n 0, 1) := by decide +kernel
theorem dX19_dropSegment_1 : decode cX19_dropSegment 1 = .ok (.getfield 22, 3) := by decide +kernel
theorem dX19_dropSegment_4 : decode cX19_dropSegment 4 = .ok (.iload_n 1, 1) := by decide +kernel
theorem dX19_dropSegment_5 : decode cX19_dropSegment 5 = .ok (.dup2, 1) := by decide +kernel
theorem dX19_dropSegment_6 : decode cX19_dropSegment 6 = .ok (.iaload, 1) := by decide +kernel
theorem dX19_dropSegment_7 : decode cX19_dropSegment 7 = .ok (.iconst 1, 1) := by decide +kernel
theorem dX19_dropSegment_8 : decode cX19_dropSegment 8 = .ok (.isub, 1) := by decide +kernel
theorem dX19_dropSegment_9 : decode cX19_dropSegment 9 = .ok (.iastore, 1) := by decide +kernel
theorem dX19_dropSegment_10 : decode cX19_dropSegment 10 = .ok (.aload_n 0, 1) := by decide +kernel
theorem dX19_dropSegment_11 : decode cX19_dropSegment 11 = .ok (.getfield 22, 3) := by decide +kernel
theorem dX19_dropSegment_14 : decode cX19_dropSegment 14 = .ok (.iload_n 1, 1) := by decide +kernel
theorem dX19_dropSegment_15 : decode cX19_dropSegment 15 = .ok (.iaload, 1) := by decide +kernel
theorem dX19_dropSegment_16 : decode cX19_dropSegment 16 = .ok (.ifCond .ne 34, 3) := by decide +kernel
theorem dX19_dropSegment_19 : decode cX19_dropSegment 19 = .ok (.aload_n 0, 1) := by decide +kernel
theorem dX19_dropSegment_20 : decode cX19_dropSegment 20 = .ok (.aload_n 0, 1) := by decide +kernel
theorem dX19_dropSegment_21 : decode cX19_dropSegment 21 = .ok (.iload_n 1, 1) := by decide +kernel
theorem dX19_dropSegment_22 : decode cX19_dropSegment 22 = .ok (.bipush 8, 2) := by decide +kernel
theorem dX19_dropSegment_24 : decode cX19_dropSegment 24 = .ok (.invokevirtual 47, 3) := by decide +kernel
theorem dX19_dropSegment_27 : decode cX19_dropSegment 27 = .ok (.invokevirtual 50, 3) := by decide +kernel
theorem dX19_dropSegment_30 : decode cX19_dropSegment 30 = .ok (.aload_n 0, 1) := by decide +kernel
theorem dX19_dropSegment_31 : decode cX19_dropSegment 31 = .ok (.getfield 41, 3) := by decide +kernel
theorem dX19_dropSegment_34 : decode cX19_dropSegment 34 = .ok (.aload_n 0, 1) := by decide +kernel
theorem dX19_dropSegment_35 : decode cX19_dropSegment 35 = .ok (.getfield 38, 3) := by decide +kernel
theorem dX19_dropSegment_38 : decode cX19_dropSegment 38 = .ok (.iload_n 1, 1) := by decide +kernel
theorem dX19_dropSegment_39 : decode cX19_dropSegment 39 = .ok (.iastore, 1) := by decide +kernel
theorem dX19_dropSegment_40 : decode cX19_dropSegment 40 = .ok (.aload_n 0, 1) := by decide +kernel
theorem dX19_dropSegment_41 : decode cX19_dropSegment 41 = .ok (.dup, 1) := by decide +kernel
theorem dX19_dropSegment_42 : decode cX19_dropSegment 42 = .ok (.getfield 38, 3) := by decide +kernel
theorem dX19_dropSegment_45 : decode cX19_dropSegment 45 = .ok (.iconst 1, 1) := by decide +kernel
theorem dX19_dropSegment_46 : decode cX19_dropSegment 46 = .ok (.iadd, 1) := by decide +kernel
theorem dX19_dropSegment_47 : decode cX19_dropSegment 47 = .ok (.putfield 38, 3) := by decide +kernel
theorem dX19_dropSegment_50 : decode cX19_dropSegment 50 = .ok (.return_, 1) := by decide +kernel
theorem dX19_setByte_0 : decode cX19_setByte 0 = .ok (.sipush 183, 3) := by decide +kernel
theorem dX19_setByte_3 : decode cX19_setByte 3 = .ok (.iload_n 1, 1) := by decide +kernel
theorem dX19_setByte_4 : decode cX19_setByte 4 = .ok (.imul, 1) := by decide +kernel
theorem dX19_setByte_5 : decode cX19_setByte 5 = .ok (.iload_n 2, 1) := by decide +kernel
theorem dX19_setByte_6 : decode cX19_setByte 6 = .ok (.iconst 3, 1) := by decide +kernel
theorem dX19_setByte_7 : decode cX19_setByte 7 = .ok (.ishr, 1) := by decide +kernel
theorem dX19_setByte_8 : decode cX19_setByte 8 = .ok (.iadd, 1) := by decide +kernel
theorem dX19_setByte_9 : decode cX19_setByte 9 = .ok (.istore 4, 2) := by decide +kernel
theorem dX19_setByte_11 : decode cX19_setByte 11 = .ok (.bipush 8, 2) := by decide +kernel
theorem dX19_setByte_13 : decode cX19_setByte 13 = .ok (.iload_n 2, 1) := by decide +kernel
theorem dX19_setByte_14 : decode cX19_setByte 14 = .ok (.bipush 7, 2) := by decide +kernel
theorem dX19_setByte_16 : decode cX19_setByte 16 = .ok (.iand, 1) := by decide +kernel
theorem dX19_setByte_17 : decode cX19_setByte 17 = .ok (.imul, 1) := by decide +kernel
theorem dX19_setByte_18 : decode cX19_setByte 18 = .ok (.istore 5, 2) := by decide +kernel
theorem dX19_setByte_20 : decode cX19_setByte 20 = .ok (.aload_n 0, 1) := by decide +kernel
theorem dX19_setByte_21 : decode cX19_setByte 21 = .ok (.getfield 53, 3) := by decide +kernel
theorem dX19_setByte_24 : decode cX19_setByte 24 = .ok (.iload 4, 2) := by decide +kernel
theorem dX19_setByte_26 : decode cX19_setByte 26 = .ok (.aload_n 0, 1) := by decide +kernel
theorem dX19_setByte_27 : decode cX19_setByte 27 = .ok (.getfield 53, 3) := by decide +kernel
theorem dX19_setByte_30 : decode cX19_setByte 30 = .ok (.iload 4, 2) := by decide +kernel
theorem dX19_setByte_32 : decode cX19_setByte 32 = .ok (.laload, 1) := by decide +kernel
theorem dX19_setByte_33 : decode cX19_setByte 33 = .ok (.ldc2_w 57, 3) := by decide +kernel
theorem dX19_setByte_36 : decode cX19_setByte 36 = .ok (.iload 5, 2) := by decide +kernel
theorem dX19_setByte_38 : decode cX19_setByte 38 = .ok (.lshl, 1) := by decide +kernel
theorem dX19_setByte_39 : decode cX19_setByte 39 = .ok (.ldc2_w 59, 3) := by decide +kernel
theorem dX19_setByte_42 : decode cX19_setByte 42 = .ok (.lxor, 1) := by decide +kernel
theorem dX19_setByte_43 : decode cX19_setByte 43 = .ok (.land, 1) := by decide +kernel
theorem dX19_setByte_44 : decode cX19_setByte 44 = .ok (.iload_n 3, 1) := by decide +kernel
theorem dX19_setByte_45 : decode cX19_setByte 45 = .ok (.sipush 255, 3) := by decide +kernel
theorem dX19_setByte_48 : decode cX19_setByte 48 = .ok (.iand, 1) := by decide +kernel
theorem dX19_setByte_49 : decode cX19_setByte 49 = .ok (.i2l, 1) := by decide +kernel
theorem dX19_setByte_50 : decode cX19_setByte 50 = .ok (.iload 5, 2) := by decide +kernel
theorem dX19_setByte_52 : decode cX19_setByte 52 = .ok (.lshl, 1) := by decide +kernel
theorem dX19_setByte_53 : decode cX19_setByte 53 = .ok (.lor, 1) := by decide +kernel
theorem dX19_setByte_54 : decode cX19_setByte 54 = .ok (.lastore, 1) := by decide +kernel
theorem dX19_setByte_55 : decode cX19_setByte 55 = .ok (.return_, 1) := by decide +kernel
theorem dX19_byteOf_0 : decode cX19_byteOf 0 = .ok (.aload_n 0, 1) := by decide +kernel
theorem dX19_byteOf_1 : decode cX19_byteOf 1 = .ok (.getfield 53, 3) := by decide +kernel
theorem dX19_byteOf_4 : decode cX19_byteOf 4 = .ok (.sipush 183, 3) := by decide +kernel
theorem dX19_byteOf_7 : decode cX19_byteOf 7 = .ok (.iload_n 1, 1) := by decide +kernel
theorem dX19_byteOf_8 : decode cX19_byteOf 8 = .ok (.imul, 1) := by decide +kernel
theorem dX19_byteOf_9 : decode cX19_byteOf 9 = .ok (.iload_n 2, 1) := by decide +kernel
theorem dX19_byteOf_10 : decode cX19_byteOf 10 = .ok (.iconst 3, 1) := by decide +kernel
theorem dX19_byteOf_11 : decode cX19_byteOf 11 = .ok (.ishr, 1) := by decide +kernel
theorem dX19_byteOf_12 : decode cX19_byteOf 12 = .ok (.iadd, 1) := by decide +kernel
theorem dX19_byteOf_13 : decode cX19_byteOf 13 = .ok (.laload, 1) := by decide +kernel
theorem dX19_byteOf_14 : decode cX19_byteOf 14 = .ok (.bipush 8, 2) := by decide +kernel
theorem dX19_byteOf_16 : decode cX19_byteOf 16 = .ok (.iload_n 2, 1) := by decide +kernel
theorem dX19_byteOf_17 : decode cX19_byteOf 17 = .ok (.bipush 7, 2) := by decide +kernel
theorem dX19_byteOf_19 : decode cX19_byteOf 19 = .ok (.iand, 1) := by decide +kernel
theorem dX19_byteOf_20 : decode cX19_byteOf 20 = .ok (.imul, 1) := by decide +kernel
theorem dX19_byteOf_21 : decode cX19_byteOf 21 = .ok (.lshr, 1) := by decide +kernel
theorem dX19_byteOf_22 : decode cX19_byteOf 22 = .ok (.l2i, 1) := by decide +kernel
theorem dX19_byteOf_23 : decode cX19_byteOf 23 = .ok (.i2b, 1) := by decide +kernel
theorem dX19_byteOf_24 : decode cX19_byteOf 24 = .ok (.ireturn, 1) := by decide +kernel
theorem dX19_has_0 : decode cX19_has 0 = .ok (.aload_n 0, 1) := by decide +kernel
theorem dX19_has_1 : decode cX19_has 1 = .ok (.iload_n 1, 1) := by decide +kernel
theorem dX19_has_2 : decode cX19_has 2 = .ok (.iconst 2, 1) := by decide +kernel
theorem dX19_has_3 : decode cX19_has 3 = .ok (.invokevirtual 47, 3) := by decide +kernel
theorem dX19_has_6 : decode cX19_has 6 = .ok (.iload_n 2, 1) := by decide +kernel
theorem dX19_has_7 : decode cX19_has 7 = .ok (.iand, 1) := by decide +kernel
theorem dX19_has_8 : decode cX19_has 8 = .ok (.ifCond .eq 7, 3) := by decide +kernel
theorem dX19_has_11 : decode cX19_has 11 = .ok (.iconst 1, 1) := by decide +kernel
theorem dX19_has_12 : decode cX19_has 12 = .ok (.goto 4, 3) := by decide +kernel
theorem dX19_has_15 : decode cX19_has 15 = .ok (.iconst 0, 1) := by decide +kernel
theorem dX19_has_16 : decode cX19_has 16 = .ok (.ireturn, 1) := by decide +kernel
theorem dX19_sizeOf_0 : decode cX19_sizeOf 0 = .ok (.aload_n 0, 1) := by decide +kernel
theorem dX19_sizeOf_1 : decode cX19_sizeOf 1 = .ok (.iload_n 1, 1) := by decide +kernel
theorem dX19_sizeOf_2 : decode cX19_sizeOf 2 = .ok (.iconst 1, 1) := by decide +kernel
theorem dX19_sizeOf_3 : decode cX19_sizeOf 3 = .ok (.invokevirtual 61, 3) := by decide +kernel
theorem dX19_sizeOf_6 : decode cX19_sizeOf 6 = .ok (.ifCond .eq 7, 3) := by decide +kernel
theorem dX19_sizeOf_9 : decode cX19_sizeOf 9 = .ok (.iconst 1, 1) := by decide +kernel
theorem dX19_sizeOf_10 : decode cX19_sizeOf 10 = .ok (.goto 4, 3) := by decide +kernel
theorem dX19_sizeOf_13 : decode cX19_sizeOf 13 = .ok (.iconst 0, 1) := by decide +kernel
theorem dX19_sizeOf_14 : decode cX19_sizeOf 14 = .ok (.aload_n 0, 1) := by decide +kernel
theorem dX19_sizeOf_15 : decode cX19_sizeOf 15 = .ok (.iload_n 1, 1) := by decide +kernel
theorem dX19_sizeOf_16 : decode cX19_sizeOf 16 = .ok (.bipush 7, 2) := by decide +kernel
theorem dX19_sizeOf_18 : decode cX19_sizeOf 18 = .ok (.invokevirtual 47, 3) := by decide +kernel
theorem dX19_sizeOf_21 : decode cX19_sizeOf 21 = .ok (.iadd, 1) := by decide +kernel
theorem dX19_sizeOf_22 : decode cX19_sizeOf 22 = .ok (.aload_n 0, 1) := by decide +kernel
theorem dX19_sizeOf_23 : decode cX19_sizeOf 23 = .ok (.iload_n 1, 1) := by decide +kernel
theorem dX19_sizeOf_24 : decode cX19_sizeOf 24 = .ok (.iconst 2, 1) := by decide +kernel
theorem dX19_sizeOf_25 : decode cX19_sizeOf 25 = .ok (.invokevirtual 61, 3) := by decide +kernel
theorem dX19_sizeOf_28 : decode cX19_sizeOf 28 = .ok (.ifCond .eq 7, 3) := by decide +kernel
theorem dX19_sizeOf_31 : decode cX19_sizeOf 31 = .ok (.iconst 1, 1) := by decide +kernel
theorem dX19_sizeOf_32 : decode cX19_sizeOf 32 = .ok (.goto 4, 3) := by decide +kernel
theorem dX19_sizeOf_35 : decode cX19_sizeOf 35 = .ok (.iconst 0, 1) := by decide +kernel
theorem dX19_sizeOf_36 : decode cX19_sizeOf 36 = .ok (.iadd, 1) := by decide +kernel
theorem dX19_sizeOf_37 : decode cX19_sizeOf 37 = .ok (.ireturn, 1) := by decide +kernel
theorem dX19_ad_0 : decode cX19_ad 0 = .ok (.aload_n 0, 1) := by decide +kernel
theorem dX19_ad_1 : decode cX19_ad 1 = .ok (.getfield 65, 3) := by decide +kernel
theorem dX19_ad_4 : decode cX19_ad 4 = .ok (.bipush 76, 2) := by decide +kernel
theorem dX19_ad_6 : decode cX19_ad 6 = .ok (.iload_n 1, 1) := by decide +kernel
theorem dX19_ad_7 : decode cX19_ad 7 = .ok (.imul, 1) := by decide +kernel
theorem dX19_ad_8 : decode cX19_ad 8 = .ok (.iload_n 2, 1) := by decide +kernel
theorem dX19_ad_9 : decode cX19_ad 9 = .ok (.iadd, 1) := by decide +kernel
theorem dX19_ad_10 : decode cX19_ad 10 = .ok (.iaload, 1) := by decide +kernel
theorem dX19_ad_11 : decode cX19_ad 11 = .ok (.ireturn, 1) := by decide +kernel
theorem dX19_newAdvert_0 : decode cX19_newAdvert 0 = .ok (.aload_n 0, 1) := by decide +kernel
theorem dX19_newAdvert_1 : decode cX19_newAdvert 1 = .ok (.dup, 1) := by decide +kernel
theorem dX19_newAdvert_2 : decode cX19_newAdvert 2 = .ok (.getfield 68, 3) := by decide +kernel
theorem dX19_newAdvert_5 : decode cX19_newAdvert 5 = .ok (.iconst 1, 1) := by decide +kernel
theorem dX19_newAdvert_6 : decode cX19_newAdvert 6 = .ok (.isub, 1) := by decide +kernel
theorem dX19_newAdvert_7 : decode cX19_newAdvert 7 = .ok (.putfield 68, 3) := by decide +kernel
theorem dX19_newAdvert_10 : decode cX19_newAdvert 10 = .ok (.aload_n 0, 1) := by decide +kernel
theorem dX19_newAdvert_11 : decode cX19_newAdvert 11 = .ok (.getfield 71, 3) := by decide +kernel
theorem dX19_newAdvert_14 : decode cX19_newAdvert 14 = .ok (.aload_n 0, 1) := by decide +kernel
theorem dX19_newAdvert_15 : decode cX19_newAdvert 15 = .ok (.getfield 68, 3) := by decide +kernel
theorem dX19_newAdvert_18 : decode cX19_newAdvert 18 = .ok (.iaload, 1) := by decide +kernel
theorem dX19_newAdvert_19 : decode cX19_newAdvert 19 = .ok (.istore_n 2, 1) := by decide +kernel
theorem dX19_newAdvert_20 : decode cX19_newAdvert 20 = .ok (.iconst 0, 1) := by decide +kernel
theorem dX19_newAdvert_21 : decode cX19_newAdvert 21 = .ok (.istore_n 3, 1) := by decide +kernel
theorem dX19_newAdvert_22 : decode cX19_newAdvert 22 = .ok (.iload_n 3, 1) := by decide +kernel
theorem dX19_newAdvert_23 : decode cX19_newAdvert 23 = .ok (.bipush 76, 2) := by decide +kernel
theorem dX19_newAdvert_25 : decode cX19_newAdvert 25 = .ok (.if_icmp .ge 21, 3) := by decide +kernel
theorem dX19_newAdvert_28 : decode cX19_newAdvert 28 = .ok (.aload_n 0, 1) := by decide +kernel
theorem dX19_newAdvert_29 : decode cX19_newAdvert 29 = .ok (.getfield 65, 3) := by decide +kernel
theorem dX19_newAdvert_32 : decode cX19_newAdvert 32 = .ok (.bipush 76, 2) := by decide +kernel
theorem dX19_newAdvert_34 : decode cX19_newAdvert 34 = .ok (.iload_n 2, 1) := by decide +kernel
theorem dX19_newAdvert_35 : decode cX19_newAdvert 35 = .ok (.imul, 1) := by decide +kernel
theorem dX19_newAdvert_36 : decode cX19_newAdvert 36 = .ok (.iload_n 3, 1) := by decide +kernel
theorem dX19_newAdvert_37 : decode cX19_newAdvert 37 = .ok (.iadd, 1) := by decide +kernel
theorem dX19_newAdvert_38 : decode cX19_newAdvert 38 = .ok (.iconst 0, 1) := by decide +kernel
theorem dX19_newAdvert_39 : decode cX19_newAdvert 39 = .ok (.iastore, 1) := by decide +kernel
theorem dX19_newAdvert_40 : decode cX19_newAdvert 40 = .ok (.iinc 3 1, 3) := by decide +kernel
theorem dX19_newAdvert_43 : decode cX19_newAdvert 43 = .ok (.goto (-21), 3) := by decide +kernel
theorem dX19_newAdvert_46 : decode cX19_newAdvert 46 = .ok (.aload_n 0, 1) := by decide +kernel
theorem dX19_newAdvert_47 : decode cX19_newAdvert 47 = .ok (.getfield 65, 3) := by decide +kernel
theorem dX19_newAdvert_50 : decode cX19_newAdvert 50 = .ok (.bipush 76, 2) := by decide +kernel
theorem dX19_newAdvert_52 : decode cX19_newAdvert 52 = .ok (.iload_n 2, 1) := by decide +kernel
theorem dX19_newAdvert_53 : decode cX19_newAdvert 53 = .ok (.imul, 1) := by decide +kernel
theorem dX19_newAdvert_54 : decode cX19_newAdvert 54 = .ok (.iload_n 1, 1) := by decide +kernel
theorem dX19_newAdvert_55 : decode cX19_newAdvert 55 = .ok (.iastore, 1) := by decide +kernel
theorem dX19_newAdvert_56 : decode cX19_newAdvert 56 = .ok (.aload_n 0, 1) := by decide +kernel
theorem dX19_newAdvert_57 : decode cX19_newAdvert 57 = .ok (.getfield 25, 3) := by decide +kernel
theorem dX19_newAdvert_60 : decode cX19_newAdvert 60 = .ok (.iload_n 2, 1) := by decide +kernel
theorem dX19_newAdvert_61 : decode cX19_newAdvert 61 = .ok (.iconst 1, 1) := by decide +kernel
theorem dX19_newAdvert_62 : decode cX19_newAdvert 62 = .ok (.iastore, 1) := by decide +kernel
theorem dX19_newAdvert_63 : decode cX19_newAdvert 63 = .ok (.iload_n 2, 1) := by decide +kernel
theorem dX19_newAdvert_64 : decode cX19_newAdvert 64 = .ok (.ireturn, 1) := by decide +kernel
theorem dX19_dropAdvert_0 : decode cX19_dropAdvert 0 = .ok (.aload_n 0, 1) := by decide +kernel
theorem dX19_dropAdvert_1 : decode cX19_dropAdvert 1 = .ok (.getfield 25, 3) := by decide +kernel
theorem dX19_dropAdvert_4 : decode cX19_dropAdvert 4 = .ok (.iload_n 1, 1) := by decide +kernel
theorem dX19_dropAdvert_5 : decode cX19_dropAdvert 5 = .ok (.dup2, 1) := by decide +kernel
theorem dX19_dropAdvert_6 : decode cX19_dropAdvert 6 = .ok (.iaload, 1) := by decide +kernel
theorem dX19_dropAdvert_7 : decode cX19_dropAdvert 7 = .ok (.iconst 1, 1) := by decide +kernel
theorem dX19_dropAdvert_8 : decode cX19_dropAdvert 8 = .ok (.isub, 1) := by decide +kernel
theorem dX19_dropAdvert_9 : decode cX19_dropAdvert 9 = .ok (.iastore, 1) := by decide +kernel
theorem dX19_dropAdvert_10 : decode cX19_dropAdvert 10 = .ok (.aload_n 0, 1) := by decide +kernel
theorem dX19_dropAdvert_11 : decode cX19_dropAdvert 11 = .ok (.getfield 25, 3) := by decide +kernel
theorem dX19_dropAdvert_14 : decode cX19_dropAdvert 14 = .ok (.iload_n 1, 1) := by decide +kernel
theorem dX19_dropAdvert_15 : decode cX19_dropAdvert 15 = .ok (.iaload, 1) := by decide +kernel
theorem dX19_dropAdvert_16 : decode cX19_dropAdvert 16 = .ok (.ifCond .ne 23, 3) := by decide +kernel
theorem dX19_dropAdvert_19 : decode cX19_dropAdvert 19 = .ok (.aload_n 0, 1) := by decide +kernel
theorem dX19_dropAdvert_20 : decode cX19_dropAdvert 20 = .ok (.getfield 71, 3) := by decide +kernel
theorem dX19_dropAdvert_23 : decode cX19_dropAdvert 23 = .ok (.aload_n 0, 1) := by decide +kernel
theorem dX19_dropAdvert_24 : decode cX19_dropAdvert 24 = .ok (.getfield 68, 3) := by decide +kernel
theorem dX19_dropAdvert_27 : decode cX19_dropAdvert 27 = .ok (.iload_n 1, 1) := by decide +kernel
theorem dX19_dropAdvert_28 : decode cX19_dropAdvert 28 = .ok (.iastore, 1) := by decide +kernel
theorem dX19_dropAdvert_29 : decode cX19_dropAdvert 29 = .ok (.aload_n 0, 1) := by decide +kernel
theorem dX19_dropAdvert_30 : decode cX19_dropAdvert 30 = .ok (.dup, 1) := by decide +kernel
theorem dX19_dropAdvert_31 : decode cX19_dropAdvert 31 = .ok (.getfield 68, 3) := by decide +kernel
theorem dX19_dropAdvert_34 : decode cX19_dropAdvert 34 = .ok (.iconst 1, 1) := by decide +kernel
theorem dX19_dropAdvert_35 : decode cX19_dropAdvert 35 = .ok (.iadd, 1) := by decide +kernel
theorem dX19_dropAdvert_36 : decode cX19_dropAdvert 36 = .ok (.putfield 68, 3) := by decide +kernel
theorem dX19_dropAdvert_39 : decode cX19_dropAdvert 39 = .ok (.return_, 1) := by decide +kernel
theorem dX19_netRow_0 : decode cX19_netRow 0 = .ok (.aload_n 0, 1) := by decide +kernel
theorem dX19_netRow_1 : decode cX19_netRow 1 = .ok (.getfield 65, 3) := by decide +kernel
theorem dX19_netRow_4 : decode cX19_netRow 4 = .ok (.bipush 76, 2) := by decide +kernel
theorem dX19_netRow_6 : decode cX19_netRow 6 = .ok (.iload_n 1, 1) := by decide +kernel
theorem dX19_netRow_7 : decode cX19_netRow 7 = .ok (.imul, 1) := by decide +kernel
theorem dX19_netRow_8 : decode cX19_netRow 8 = .ok (.iconst 4, 1) := by decide +kernel
theorem dX19_netRow_9 : decode cX19_netRow 9 = .ok (.iadd, 1) := by decide +kernel
theorem dX19_netRow_10 : decode cX19_netRow 10 = .ok (.iconst 3, 1) := by decide +kernel
theorem dX19_netRow_11 : decode cX19_netRow 11 = .ok (.iload_n 2, 1) := by decide +kernel
theorem dX19_netRow_12 : decode cX19_netRow 12 = .ok (.imul, 1) := by decide +kernel
theorem dX19_netRow_13 : decode cX19_netRow 13 = .ok (.iadd, 1) := by decide +kernel
theorem dX19_netRow_14 : decode cX19_netRow 14 = .ok (.iload_n 3, 1) := by decide +kernel
theorem dX19_netRow_15 : decode cX19_netRow 15 = .ok (.iadd, 1) := by decide +kernel
theorem dX19_netRow_16 : decode cX19_netRow 16 = .ok (.iaload, 1) := by decide +kernel
theorem dX19_netRow_17 : decode cX19_netRow 17 = .ok (.ireturn, 1) := by decide +kernel
theorem dX19_friendRow_0 : decode cX19_friendRow 0 = .ok (.aload_n 0, 1) := by decide +kernel
theorem dX19_friendRow_1 : decode cX19_friendRow 1 = .ok (.iload_n 1, 1) := by decide +kernel
theorem dX19_friendRow_2 : decode cX19_friendRow 2 = .ok (.aload_n 0, 1) := by decide +kernel
theorem dX19_friendRow_3 : decode cX19_friendRow 3 = .ok (.iload_n 1, 1) := by decide +kernel
theorem dX19_friendRow_4 : decode cX19_friendRow 4 = .ok (.iconst 2, 1) := by decide +kernel
theorem dX19_friendRow_5 : decode cX19_friendRow 5 = .ok (.invokevirtual 74, 3) := by decide +kernel
theorem dX19_friendRow_8 : decode cX19_friendRow 8 = .ok (.iload_n 2, 1) := by decide +kernel
theorem dX19_friendRow_9 : decode cX19_friendRow 9 = .ok (.iadd, 1) := by decide +kernel
theorem dX19_friendRow_10 : decode cX19_friendRow 10 = .ok (.iload_n 3, 1) := by decide +kernel
theorem dX19_friendRow_11 : decode cX19_friendRow 11 = .ok (.invokevirtual 77, 3) := by decide +kernel
theorem dX19_friendRow_14 : decode cX19_friendRow 14 = .ok (.ireturn, 1) := by decide +kernel
theorem dX19_tellAlike_0 : decode cX19_tellAlike 0 = .ok (.aload_n 0, 1) := by decide +kernel
theorem dX19_tellAlike_1 : decode cX19_tellAlike 1 = .ok (.iload_n 1, 1) := by decide +kernel
theorem dX19_tellAlike_2 : decode cX19_tellAlike 2 = .ok (.iconst 2, 1) := by decide +kernel
theorem dX19_tellAlike_3 : decode cX19_tellAlike 3 = .ok (.invokevirtual 74, 3) := by decide +kernel
theorem dX19_tellAlike_6 : decode cX19_tellAlike 6 = .ok (.aload_n 0, 1) := by decide +kernel
theorem dX19_tellAlike_7 : decode cX19_tellAlike 7 = .ok (.iload_n 2, 1) := by decide +kernel
theorem dX19_tellAlike_8 : decode cX19_tellAlike 8 = .ok (.iconst 2, 1) := by decide +kernel
theorem dX19_tellAlike_9 : decode cX19_tellAlike 9 = .ok (.invokevirtual 74, 3) := by decide +kernel
theorem dX19_tellAlike_12 : decode cX19_tellAlike 12 = .ok (.if_icmp .ne 22, 3) := by decide +kernel
theorem dX19_tellAlike_15 : decode cX19_tellAlike 15 = .ok (.aload_n 0, 1) := by decide +kernel
theorem dX19_tellAlike_16 : decode cX19_tellAlike 16 = .ok (.iload_n 1, 1) := by decide +kernel
theorem dX19_tellAlike_17 : decode cX19_tellAlike 17 = .ok (.iconst 3, 1) := by decide +kernel
theorem dX19_tellAlike_18 : decode cX19_tellAlike 18 = .ok (.invokevirtual 74, 3) := by decide +kernel
theorem dX19_tellAlike_21 : decode cX19_tellAlike 21 = .ok (.aload_n 0, 1) := by decide +kernel
theorem dX19_tellAlike_22 : decode cX19_tellAlike 22 = .ok (.iload_n 2, 1) := by decide +kernel
theorem dX19_tellAlike_23 : decode cX19_tellAlike 23 = .ok (.iconst 3, 1) := by decide +kernel
theorem dX19_tellAlike_24 : decode cX19_tellAlike 24 = .ok (.invokevirtual 74, 3) := by decide +kernel
theorem dX19_tellAlike_27 : decode cX19_tellAlike 27 = .ok (.if_icmp .ne 7, 3) := by decide +kernel
theorem dX19_tellAlike_30 : decode cX19_tellAlike 30 = .ok (.iconst 1, 1) := by decide +kernel
theorem dX19_tellAlike_31 : decode cX19_tellAlike 31 = .ok (.goto 4, 3) := by decide +kernel
theorem dX19_tellAlike_34 : decode cX19_tellAlike 34 = .ok (.iconst 0, 1) := by decide +kernel
theorem dX19_tellAlike_35 : decode cX19_tellAlike 35 = .ok (.istore_n 3, 1) := by decide +kernel
theorem dX19_tellAlike_36 : decode cX19_tellAlike 36 = .ok (.iconst 4, 1) := by decide +kernel
theorem dX19_tellAlike_37 : decode cX19_tellAlike 37 = .ok (.istore 4, 2) := by decide +kernel
theorem dX19_tellAlike_39 : decode cX19_tellAlike 39 = .ok (.iload 4, 2) := by decide +kernel
theorem dX19_tellAlike_41 : decode cX19_tellAlike 41 = .ok (.bipush 76, 2) := by decide +kernel
theorem dX19_tellAlike_43 : decode cX19_tellAlike 43 = .ok (.if_icmp .ge 46, 3) := by decide +kernel
theorem dX19_tellAlike_46 : decode cX19_tellAlike 46 = .ok (.iload_n 3, 1) := by decide +kernel
theorem dX19_tellAlike_47 : decode cX19_tellAlike 47 = .ok (.ifCond .eq 42, 3) := by decide +kernel
theorem dX19_tellAlike_50 : decode cX19_tellAlike 50 = .ok (.aload_n 0, 1) := by decide +kernel
theorem dX19_tellAlike_51 : decode cX19_tellAlike 51 = .ok (.getfield 65, 3) := by decide +kernel
theorem dX19_tellAlike_54 : decode cX19_tellAlike 54 = .ok (.bipush 76, 2) := by decide +kernel
theorem dX19_tellAlike_56 : decode cX19_tellAlike 56 = .ok (.iload_n 1, 1) := by decide +kernel
theorem dX19_tellAlike_57 : decode cX19_tellAlike 57 = .ok (.imul, 1) := by decide +kernel
theorem dX19_tellAlike_58 : decode cX19_tellAlike 58 = .ok (.iload 4, 2) := by decide +kernel
theorem dX19_tellAlike_60 : decode cX19_tellAlike 60 = .ok (.iadd, 1) := by decide +kernel
theorem dX19_tellAlike_61 : decode cX19_tellAlike 61 = .ok (.iaload, 1) := by decide +kernel
theorem dX19_tellAlike_62 : decode cX19_tellAlike 62 = .ok (.aload_n 0, 1) := by decide +kernel
theorem dX19_tellAlike_63 : decode cX19_tellAlike 63 = .ok (.getfield 65, 3) := by decide +kernel
theorem dX19_tellAlike_66 : decode cX19_tellAlike 66 = .ok (.bipush 76, 2) := by decide +kernel
theorem dX19_tellAlike_68 : decode cX19_tellAlike 68 = .ok (.iload_n 2, 1) := by decide +kernel
theorem dX19_tellAlike_69 : decode cX19_tellAlike 69 = .ok (.imul, 1) := by decide +kernel
theorem dX19_tellAlike_70 : decode cX19_tellAlike 70 = .ok (.iload 4, 2) := by decide +kernel
theorem dX19_tellAlike_72 : decode cX19_tellAlike 72 = .ok (.iadd, 1) := by decide +kernel
theorem dX19_tellAlike_73 : decode cX19_tellAlike 73 = .ok (.iaload, 1) := by decide +kernel
theorem dX19_tellAlike_74 : decode cX19_tellAlike 74 = .ok (.if_icmp .ne 7, 3) := by decide +kernel
theorem dX19_tellAlike_77 : decode cX19_tellAlike 77 = .ok (.iconst 1, 1) := by decide +kernel
theorem dX19_tellAlike_78 : decode cX19_tellAlike 78 = .ok (.goto 4, 3) := by decide +kernel
theorem dX19_tellAlike_81 : decode cX19_tellAlike 81 = .ok (.iconst 0, 1) := by decide +kernel
theorem dX19_tellAlike_82 : decode cX19_tellAlike 82 = .ok (.istore_n 3, 1) := by decide +kernel
theorem dX19_tellAlike_83 : decode cX19_tellAlike 83 = .ok (.iinc 4 1, 3) := by decide +kernel
theorem dX19_tellAlike_86 : decode cX19_tellAlike 86 = .ok (.goto (-47), 3) := by decide +kernel
theorem dX19_tellAlike_89 : decode cX19_tellAlike 89 = .ok (.iload_n 3, 1) := by decide +kernel
theorem dX19_tellAlike_90 : decode cX19_tellAlike 90 = .ok (.ireturn, 1) := by decide +kernel
theorem dX19_costTo_0 : decode cX19_costTo 0 = .ok (.iconst 0, 1) := by decide +kernel
theorem dX19_costTo_1 : decode cX19_costTo 1 = .ok (.istore 4, 2) := by decide +kernel
theorem dX19_costTo_3 : decode cX19_costTo 3 = .ok (.iload 4, 2) := by decide +kernel
theorem dX19_costTo_5 : decode cX19_costTo 5 = .ok (.aload_n 0, 1) := by decide +kernel
theorem dX19_costTo_6 : decode cX19_costTo 6 = .ok (.iload_n 1, 1) := by decide +kernel
theorem dX19_costTo_7 : decode cX19_costTo 7 = .ok (.iconst 3, 1) := by decide +kernel
theorem dX19_costTo_8 : decode cX19_costTo 8 = .ok (.invokevirtual 74, 3) := by decide +kernel
theorem dX19_costTo_11 : decode cX19_costTo 11 = .ok (.if_icmp .ge 42, 3) := by decide +kernel
theorem dX19_costTo_14 : decode cX19_costTo 14 = .ok (.aload_n 0, 1) := by decide +kernel
theorem dX19_costTo_15 : decode cX19_costTo 15 = .ok (.iload_n 1, 1) := by decide +kernel
theorem dX19_costTo_16 : decode cX19_costTo 16 = .ok (.iload 4, 2) := by decide +kernel
theorem dX19_costTo_18 : decode cX19_costTo 18 = .ok (.iconst 0, 1) := by decide +kernel
theorem dX19_costTo_19 : decode cX19_costTo 19 = .ok (.invokevirtual 81, 3) := by decide +kernel
theorem dX19_costTo_22 : decode cX19_costTo 22 = .ok (.iload_n 2, 1) := by decide +kernel
theorem dX19_costTo_23 : decode cX19_costTo 23 = .ok (.if_icmp .ne 24, 3) := by decide +kernel
theorem dX19_costTo_26 : decode cX19_costTo 26 = .ok (.aload_n 0, 1) := by decide +kernel
theorem dX19_costTo_27 : decode cX19_costTo 27 = .ok (.iload_n 1, 1) := by decide +kernel
theorem dX19_costTo_28 : decode cX19_costTo 28 = .ok (.iload 4, 2) := by decide +kernel
theorem dX19_costTo_30 : decode cX19_costTo 30 = .ok (.iconst 1, 1) := by decide +kernel
theorem dX19_costTo_31 : decode cX19_costTo 31 = .ok (.invokevirtual 81, 3) := by decide +kernel
theorem dX19_costTo_34 : decode cX19_costTo 34 = .ok (.iload_n 3, 1) := by decide +kernel
theorem dX19_costTo_35 : decode cX19_costTo 35 = .ok (.if_icmp .ne 12, 3) := by decide +kernel
theorem dX19_costTo_38 : decode cX19_costTo 38 = .ok (.aload_n 0, 1) := by decide +kernel
theorem dX19_costTo_39 : decode cX19_costTo 39 = .ok (.iload_n 1, 1) := by decide +kernel
theorem dX19_costTo_40 : decode cX19_costTo 40 = .ok (.iload 4, 2) := by decide +kernel
theorem dX19_costTo_42 : decode cX19_costTo 42 = .ok (.iconst 2, 1) := by decide +kernel
theorem dX19_costTo_43 : decode cX19_costTo 43 = .ok (.invokevirtual 81, 3) := by decide +kernel
theorem dX19_costTo_46 : decode cX19_costTo 46 = .ok (.ireturn, 1) := by decide +kernel
theorem dX19_costTo_47 : decode cX19_costTo 47 = .ok (.iinc 4 1, 3) := by decide +kernel
theorem dX19_costTo_50 : decode cX19_costTo 50 = .ok (.goto (-47), 3) := by decide +kernel
theorem dX19_costTo_53 : decode cX19_costTo 53 = .ok (.iconst (-1), 1) := by decide +kernel
theorem dX19_costTo_54 : decode cX19_costTo 54 = .ok (.ireturn, 1) := by decide +kernel
theorem dX19_costOn_0 : decode cX19_costOn 0 = .ok (.iconst 0, 1) := by decide +kernel
theorem dX19_costOn_1 : decode cX19_costOn 1 = .ok (.istore_n 3, 1) := by decide +kernel
theorem dX19_costOn_2 : decode cX19_costOn 2 = .ok (.iload_n 1, 1) := by decide +kernel
theorem dX19_costOn_3 : decode cX19_costOn 3 = .ok (.iconst (-1), 1) := by decide +kernel
theorem dX19_costOn_4 : decode cX19_costOn 4 = .ok (.if_icmp .eq 38, 3) := by decide +kernel
theorem dX19_costOn_7 : decode cX19_costOn 7 = .ok (.iload_n 3, 1) := by decide +kernel
theorem dX19_costOn_8 : decode cX19_costOn 8 = .ok (.aload_n 0, 1) := by decide +kernel
theorem dX19_costOn_9 : decode cX19_costOn 9 = .ok (.iload_n 1, 1) := by decide +kernel
theorem dX19_costOn_10 : decode cX19_costOn 10 = .ok (.iconst 2, 1) := by decide +kernel
theorem dX19_costOn_11 : decode cX19_costOn 11 = .ok (.invokevirtual 74, 3) := by decide +kernel
theorem dX19_costOn_14 : decode cX19_costOn 14 = .ok (.if_icmp .ge 28, 3) := by decide +kernel
theorem dX19_costOn_17 : decode cX19_costOn 17 = .ok (.aload_n 0, 1) := by decide +kernel
theorem dX19_costOn_18 : decode cX19_costOn 18 = .ok (.iload_n 1, 1) := by decide +kernel
theorem dX19_costOn_19 : decode cX19_costOn 19 = .ok (.iload_n 3, 1) := by decide +kernel
theorem dX19_costOn_20 : decode cX19_costOn 20 = .ok (.iconst 1, 1) := by decide +kernel
theorem dX19_costOn_21 : decode cX19_costOn 21 = .ok (.invokevirtual 77, 3) := by decide +kernel
theorem dX19_costOn_24 : decode cX19_costOn 24 = .ok (.iload_n 2, 1) := by decide +kernel
theorem dX19_costOn_25 : decode cX19_costOn 25 = .ok (.if_icmp .ne 11, 3) := by decide +kernel
theorem dX19_costOn_28 : decode cX19_costOn 28 = .ok (.aload_n 0, 1) := by decide +kernel
theorem dX19_costOn_29 : decode cX19_costOn 29 = .ok (.iload_n 1, 1) := by decide +kernel
theorem dX19_costOn_30 : decode cX19_costOn 30 = .ok (.iload_n 3, 1) := by decide +kernel
theorem dX19_costOn_31 : decode cX19_costOn 31 = .ok (.iconst 2, 1) := by decide +kernel
theorem dX19_costOn_32 : decode cX19_costOn 32 = .ok (.invokevirtual 77, 3) := by decide +kernel
theorem dX19_costOn_35 : decode cX19_costOn 35 = .ok (.ireturn, 1) := by decide +kernel
theorem dX19_costOn_36 : decode cX19_costOn 36 = .ok (.iinc 3 1, 3) := by decide +kernel
theorem dX19_costOn_39 : decode cX19_costOn 39 = .ok (.goto (-37), 3) := by decide +kernel
theorem dX19_costOn_42 : decode cX19_costOn 42 = .ok (.iconst (-1), 1) := by decide +kernel
theorem dX19_costOn_43 : decode cX19_costOn 43 = .ok (.ireturn, 1) := by decide +kernel
theorem dX19_newBook_0 : decode cX19_newBook 0 = .ok (.aload_n 0, 1) := by decide +kernel
theorem dX19_newBook_1 : decode cX19_newBook 1 = .ok (.dup, 1) := by decide +kernel
theorem dX19_newBook_2 : decode cX19_newBook 2 = .ok (.getfield 84, 3) := by decide +kernel
theorem dX19_newBook_5 : decode cX19_newBook 5 = .ok (.iconst 1, 1) := by decide +kernel
theorem dX19_newBook_6 : decode cX19_newBook 6 = .ok (.isub, 1) := by decide +kernel
theorem dX19_newBook_7 : decode cX19_newBook 7 = .ok (.putfield 84, 3) := by decide +kernel
theorem dX19_newBook_10 : decode cX19_newBook 10 = .ok (.aload_n 0, 1) := by decide +kernel
theorem dX19_newBook_11 : decode cX19_newBook 11 = .ok (.getfield 87, 3) := by decide +kernel
theorem dX19_newBook_14 : decode cX19_newBook 14 = .ok (.aload_n 0, 1) := by decide +kernel
theorem dX19_newBook_15 : decode cX19_newBook 15 = .ok (.getfield 84, 3) := by decide +kernel
theorem dX19_newBook_18 : decode cX19_newBook 18 = .ok (.iaload, 1) := by decide +kernel
theorem dX19_newBook_19 : decode cX19_newBook 19 = .ok (.istore_n 1, 1) := by decide +kernel
theorem dX19_newBook_20 : decode cX19_newBook 20 = .ok (.aload_n 0, 1) := by decide +kernel
theorem dX19_newBook_21 : decode cX19_newBook 21 = .ok (.getfield 90, 3) := by decide +kernel
theorem dX19_newBook_24 : decode cX19_newBook 24 = .ok (.iload_n 1, 1) := by decide +kernel
theorem dX19_newBook_25 : decode cX19_newBook 25 = .ok (.iconst 0, 1) := by decide +kernel
theorem dX19_newBook_26 : decode cX19_newBook 26 = .ok (.iastore, 1) := by decide +kernel
theorem dX19_newBook_27 : decode cX19_newBook 27 = .ok (.aload_n 0, 1) := by decide +kernel
theorem dX19_newBook_28 : decode cX19_newBook 28 = .ok (.getfield 93, 3) := by decide +kernel
theorem dX19_newBook_31 : decode cX19_newBook 31 = .ok (.iload_n 1, 1) := by decide +kernel
theorem dX19_newBook_32 : decode cX19_newBook 32 = .ok (.iconst 1, 1) := by decide +kernel
theorem dX19_newBook_33 : decode cX19_newBook 33 = .ok (.iastore, 1) := by decide +kernel
theorem dX19_newBook_34 : decode cX19_newBook 34 = .ok (.aload_n 0, 1) := by decide +kernel
theorem dX19_newBook_35 : decode cX19_newBook 35 = .ok (.getfield 96, 3) := by decide +kernel
theorem dX19_newBook_38 : decode cX19_newBook 38 = .ok (.iload_n 1, 1) := by decide +kernel
theorem dX19_newBook_39 : decode cX19_newBook 39 = .ok (.dup2, 1) := by decide +kernel
theorem dX19_newBook_40 : decode cX19_newBook 40 = .ok (.iaload, 1) := by decide +kernel
theorem dX19_newBook_41 : decode cX19_newBook 41 = .ok (.iconst 1, 1) := by decide +kernel
theorem dX19_newBook_42 : decode cX19_newBook 42 = .ok (.iadd, 1) := by decide +kernel
theorem dX19_newBook_43 : decode cX19_newBook 43 = .ok (.iastore, 1) := by decide +kernel
theorem dX19_newBook_44 : decode cX19_newBook 44 = .ok (.iload_n 1, 1) := by decide +kernel
theorem dX19_newBook_45 : decode cX19_newBook 45 = .ok (.ireturn, 1) := by decide +kernel
theorem dX19_dropBook_0 : decode cX19_dropBook 0 = .ok (.iload_n 1, 1) := by decide +kernel
theorem dX19_dropBook_1 : decode cX19_dropBook 1 = .ok (.iconst (-1), 1) := by decide +kernel
theorem dX19_dropBook_2 : decode cX19_dropBook 2 = .ok (.if_icmp .eq 42, 3) := by decide +kernel
theorem dX19_dropBook_5 : decode cX19_dropBook 5 = .ok (.aload_n 0, 1) := by decide +kernel
theorem dX19_dropBook_6 : decode cX19_dropBook 6 = .ok (.getfield 93, 3) := by decide +kernel
theorem dX19_dropBook_9 : decode cX19_dropBook 9 = .ok (.iload_n 1, 1) := by decide +kernel
theorem dX19_dropBook_10 : decode cX19_dropBook 10 = .ok (.dup2, 1) := by decide +kernel
theorem dX19_dropBook_11 : decode cX19_dropBook 11 = .ok (.iaload, 1) := by decide +kernel
theorem dX19_dropBook_12 : decode cX19_dropBook 12 = .ok (.iconst 1, 1) := by decide +kernel
theorem dX19_dropBook_13 : decode cX19_dropBook 13 = .ok (.isub, 1) := by decide +kernel
theorem dX19_dropBook_14 : decode cX19_dropBook 14 = .ok (.iastore, 1) := by decide +kernel
theorem dX19_dropBook_15 : decode cX19_dropBook 15 = .ok (.aload_n 0, 1) := by decide +kernel
theorem dX19_dropBook_16 : decode cX19_dropBook 16 = .ok (.getfield 93, 3) := by decide +kernel
theorem dX19_dropBook_19 : decode cX19_dropBook 19 = .ok (.iload_n 1, 1) := by decide +kernel
theorem dX19_dropBook_20 : decode cX19_dropBook 20 = .ok (.iaload, 1) := by decide +kernel
theorem dX19_dropBook_21 : decode cX19_dropBook 21 = .ok (.ifCond .ne 23, 3) := by decide +kernel
theorem dX19_dropBook_24 : decode cX19_dropBook 24 = .ok (.aload_n 0, 1) := by decide +kernel
theorem dX19_dropBook_25 : decode cX19_dropBook 25 = .ok (.getfield 87, 3) := by decide +kernel
theorem dX19_dropBook_28 : decode cX19_dropBook 28 = .ok (.aload_n 0, 1) := by decide +kernel
theorem dX19_dropBook_29 : decode cX19_dropBook 29 = .ok (.getfield 84, 3) := by decide +kernel
theorem dX19_dropBook_32 : decode cX19_dropBook 32 = .ok (.iload_n 1, 1) := by decide +kernel
theorem dX19_dropBook_33 : decode cX19_dropBook 33 = .ok (.iastore, 1) := by decide +kernel
theorem dX19_dropBook_34 : decode cX19_dropBook 34 = .ok (.aload_n 0, 1) := by decide +kernel
theorem dX19_dropBook_35 : decode cX19_dropBook 35 = .ok (.dup, 1) := by decide +kernel
theorem dX19_dropBook_36 : decode cX19_dropBook 36 = .ok (.getfield 84, 3) := by decide +kernel
theorem dX19_dropBook_39 : decode cX19_dropBook 39 = .ok (.iconst 1, 1) := by decide +kernel
theorem dX19_dropBook_40 : decode cX19_dropBook 40 = .ok (.iadd, 1) := by decide +kernel
theorem dX19_dropBook_41 : decode cX19_dropBook 41 = .ok (.putfield 84, 3) := by decide +kernel
theorem dX19_dropBook_44 : decode cX19_dropBook 44 = .ok (.return_, 1) := by decide +kernel
theorem dX19_writeDown_0 : decode cX19_writeDown 0 = .ok (.aload_n 0, 1) := by decide +kernel
theorem dX19_writeDown_1 : decode cX19_writeDown 1 = .ok (.getfield 90, 3) := by decide +kernel
theorem dX19_writeDown_4 : decode cX19_writeDown 4 = .ok (.iload_n 1, 1) := by decide +kernel
theorem dX19_writeDown_5 : decode cX19_writeDown 5 = .ok (.iaload, 1) := by decide +kernel
theorem dX19_writeDown_6 : decode cX19_writeDown 6 = .ok (.sipush 4095, 3) := by decide +kernel
theorem dX19_writeDown_9 : decode cX19_writeDown 9 = .ok (.iand, 1) := by decide +kernel
theorem dX19_writeDown_10 : decode cX19_writeDown 10 = .ok (.istore_n 3, 1) := by decide +kernel
theorem dX19_writeDown_11 : decode cX19_writeDown 11 = .ok (.sipush 512, 3) := by decide +kernel
theorem dX19_writeDown_14 : decode cX19_writeDown 14 = .ok (.iload_n 1, 1) := by decide +kernel
theorem dX19_writeDown_15 : decode cX19_writeDown 15 = .ok (.imul, 1) := by decide +kernel
theorem dX19_writeDown_16 : decode cX19_writeDown 16 = .ok (.iload_n 3, 1) := by decide +kernel
theorem dX19_writeDown_17 : decode cX19_writeDown 17 = .ok (.iconst 3, 1) := by decide +kernel
theorem dX19_writeDown_18 : decode cX19_writeDown 18 = .ok (.ishr, 1) := by decide +kernel
theorem dX19_writeDown_19 : decode cX19_writeDown 19 = .ok (.iadd, 1) := by decide +kernel
theorem dX19_writeDown_20 : decode cX19_writeDown 20 = .ok (.istore 4, 2) := by decide +kernel
theorem dX19_writeDown_22 : decode cX19_writeDown 22 = .ok (.bipush 8, 2) := by decide +kernel
theorem dX19_writeDown_24 : decode cX19_writeDown 24 = .ok (.iload_n 3, 1) := by decide +kernel
theorem dX19_writeDown_25 : decode cX19_writeDown 25 = .ok (.bipush 7, 2) := by decide +kernel
theorem dX19_writeDown_27 : decode cX19_writeDown 27 = .ok (.iand, 1) := by decide +kernel
theorem dX19_writeDown_28 : decode cX19_writeDown 28 = .ok (.imul, 1) := by decide +kernel
theorem dX19_writeDown_29 : decode cX19_writeDown 29 = .ok (.istore 5, 2) := by decide +kernel
theorem dX19_writeDown_31 : decode cX19_writeDown 31 = .ok (.aload_n 0, 1) := by decide +kernel
theorem dX19_writeDown_32 : decode cX19_writeDown 32 = .ok (.getfield 99, 3) := by decide +kernel
theorem dX19_writeDown_35 : decode cX19_writeDown 35 = .ok (.iload 4, 2) := by decide +kernel
theorem dX19_writeDown_37 : decode cX19_writeDown 37 = .ok (.aload_n 0, 1) := by decide +kernel
theorem dX19_writeDown_38 : decode cX19_writeDown 38 = .ok (.getfield 99, 3) := by decide +kernel
theorem dX19_writeDown_41 : decode cX19_writeDown 41 = .ok (.iload 4, 2) := by decide +kernel
theorem dX19_writeDown_43 : decode cX19_writeDown 43 = .ok (.laload, 1) := by decide +kernel
theorem dX19_writeDown_44 : decode cX19_writeDown 44 = .ok (.ldc2_w 57, 3) := by decide +kernel
theorem dX19_writeDown_47 : decode cX19_writeDown 47 = .ok (.iload 5, 2) := by decide +kernel
theorem dX19_writeDown_49 : decode cX19_writeDown 49 = .ok (.lshl, 1) := by decide +kernel
theorem dX19_writeDown_50 : decode cX19_writeDown 50 = .ok (.ldc2_w 59, 3) := by decide +kernel
theorem dX19_writeDown_53 : decode cX19_writeDown 53 = .ok (.lxor, 1) := by decide +kernel
theorem dX19_writeDown_54 : decode cX19_writeDown 54 = .ok (.land, 1) := by decide +kernel
theorem dX19_writeDown_55 : decode cX19_writeDown 55 = .ok (.iload_n 2, 1) := by decide +kernel
theorem dX19_writeDown_56 : decode cX19_writeDown 56 = .ok (.sipush 255, 3) := by decide +kernel
theorem dX19_writeDown_59 : decode cX19_writeDown 59 = .ok (.iand, 1) := by decide +kernel
theorem dX19_writeDown_60 : decode cX19_writeDown 60 = .ok (.i2l, 1) := by decide +kernel
theorem dX19_writeDown_61 : decode cX19_writeDown 61 = .ok (.iload 5, 2) := by decide +kernel
theorem dX19_writeDown_63 : decode cX19_writeDown 63 = .ok (.lshl, 1) := by decide +kernel
theorem dX19_writeDown_64 : decode cX19_writeDown 64 = .ok (.lor, 1) := by decide +kernel
theorem dX19_writeDown_65 : decode cX19_writeDown 65 = .ok (.lastore, 1) := by decide +kernel
theorem dX19_writeDown_66 : decode cX19_writeDown 66 = .ok (.aload_n 0, 1) := by decide +kernel
theorem dX19_writeDown_67 : decode cX19_writeDown 67 = .ok (.getfield 90, 3) := by decide +kernel
theorem dX19_writeDown_70 : decode cX19_writeDown 70 = .ok (.iload_n 1, 1) := by decide +kernel
theorem dX19_writeDown_71 : decode cX19_writeDown 71 = .ok (.dup2, 1) := by decide +kernel
theorem dX19_writeDown_72 : decode cX19_writeDown 72 = .ok (.iaload, 1) := by decide +kernel
theorem dX19_writeDown_73 : decode cX19_writeDown 73 = .ok (.iconst 1, 1) := by decide +kernel
theorem dX19_writeDown_74 : decode cX19_writeDown 74 = .ok (.iadd, 1) := by decide +kernel
theorem dX19_writeDown_75 : decode cX19_writeDown 75 = .ok (.iastore, 1) := by decide +kernel
theorem dX19_writeDown_76 : decode cX19_writeDown 76 = .ok (.return_, 1) := by decide +kernel
theorem dX19_written_0 : decode cX19_written 0 = .ok (.iload_n 2, 1) := by decide +kernel
theorem dX19_written_1 : decode cX19_written 1 = .ok (.sipush 4095, 3) := by decide +kernel
theorem dX19_written_4 : decode cX19_written 4 = .ok (.iand, 1) := by decide +kernel
theorem dX19_written_5 : decode cX19_written 5 = .ok (.istore_n 3, 1) := by decide +kernel
theorem dX19_written_6 : decode cX19_written 6 = .ok (.aload_n 0, 1) := by decide +kernel
theorem dX19_written_7 : decode cX19_written 7 = .ok (.getfield 99, 3) := by decide +kernel
theorem dX19_written_10 : decode cX19_written 10 = .ok (.sipush 512, 3) := by decide +kernel
theorem dX19_written_13 : decode cX19_written 13 = .ok (.iload_n 1, 1) := by decide +kernel
theorem dX19_written_14 : decode cX19_written 14 = .ok (.imul, 1) := by decide +kernel
theorem dX19_written_15 : decode cX19_written 15 = .ok (.iload_n 3, 1) := by decide +kernel
theorem dX19_written_16 : decode cX19_written 16 = .ok (.iconst 3, 1) := by decide +kernel
theorem dX19_written_17 : decode cX19_written 17 = .ok (.ishr, 1) := by decide +kernel
theorem dX19_written_18 : decode cX19_written 18 = .ok (.iadd, 1) := by decide +kernel
theorem dX19_written_19 : decode cX19_written 19 = .ok (.laload, 1) := by decide +kernel
theorem dX19_written_20 : decode cX19_written 20 = .ok (.bipush 8, 2) := by decide +kernel
theorem dX19_written_22 : decode cX19_written 22 = .ok (.iload_n 3, 1) := by decide +kernel
theorem dX19_written_23 : decode cX19_written 23 = .ok (.bipush 7, 2) := by decide +kernel
theorem dX19_written_25 : decode cX19_written 25 = .ok (.iand, 1) := by decide +kernel
theorem dX19_written_26 : decode cX19_written 26 = .ok (.imul, 1) := by decide +kernel
theorem dX19_written_27 : decode cX19_written 27 = .ok (.lshr, 1) := by decide +kernel
theorem dX19_written_28 : decode cX19_written 28 = .ok (.l2i, 1) := by decide +kernel
theorem dX19_written_29 : decode cX19_written 29 = .ok (.sipush 255, 3) := by decide +kernel
theorem dX19_written_32 : decode cX19_written 32 = .ok (.iand, 1) := by decide +kernel
theorem dX19_written_33 : decode cX19_written 33 = .ok (.ireturn, 1) := by decide +kernel
theorem dX19_isBefore_0 : decode cX19_isBefore 0 = .ok (.iload_n 1, 1) := by decide +kernel
theorem dX19_isBefore_1 : decode cX19_isBefore 1 = .ok (.iload_n 0, 1) := by decide +kernel
theorem dX19_isBefore_2 : decode cX19_isBefore 2 = .ok (.isub, 1) := by decide +kernel
theorem dX19_isBefore_3 : decode cX19_isBefore 3 = .ok (.ifCond .le 7, 3) := by decide +kernel
theorem dX19_isBefore_6 : decode cX19_isBefore 6 = .ok (.iconst 1, 1) := by decide +kernel
theorem dX19_isBefore_7 : decode cX19_isBefore 7 = .ok (.goto 4, 3) := by decide +kernel
theorem dX19_isBefore_10 : decode cX19_isBefore 10 = .ok (.iconst 0, 1) := by decide +kernel
theorem dX19_isBefore_11 : decode cX19_isBefore 11 = .ok (.ireturn, 1) := by decide +kernel
theorem dX19_init_0 : decode cX19_init 0 = .ok (.aload_n 0, 1) := by decide +kernel
theorem dX19_init_1 : decode cX19_init 1 = .ok (.invokespecial 102, 3) := by decide +kernel
theorem dX19_init_4 : decode cX19_init 4 = .ok (.aload_n 0, 1) := by decide +kernel
theorem dX19_init_5 : decode cX19_init 5 = .ok (.ldc 108, 2) := by decide +kernel
theorem dX19_init_7 : decode cX19_init 7 = .ok (.newarray .int, 2) := by decide +kernel
theorem dX19_init_9 : decode cX19_init 9 = .ok (.putfield 1, 3) := by decide +kernel
theorem dX19_init_12 : decode cX19_init 12 = .ok (.aload_n 0, 1) := by decide +kernel
theorem dX19_init_13 : decode cX19_init 13 = .ok (.sipush 2400, 3) := by decide +kernel
theorem dX19_init_16 : decode cX19_init 16 = .ok (.newarray .int, 2) := by decide +kernel
theorem dX19_init_18 : decode cX19_init 18 = .ok (.putfield 11, 3) := by decide +kernel
theorem dX19_init_21 : decode cX19_init 21 = .ok (.aload_n 0, 1) := by decide +kernel
theorem dX19_init_22 : decode cX19_init 22 = .ok (.sipush 24000, 3) := by decide +kernel
theorem dX19_init_25 : decode cX19_init 25 = .ok (.newarray .int, 2) := by decide +kernel
theorem dX19_init_27 : decode cX19_init 27 = .ok (.putfield 35, 3) := by decide +kernel
theorem dX19_init_30 : decode cX19_init 30 = .ok (.aload_n 0, 1) := by decide +kernel
theorem dX19_init_31 : decode cX19_init 31 = .ok (.ldc 109, 2) := by decide +kernel
theorem dX19_init_33 : decode cX19_init 33 = .ok (.newarray .long, 2) := by decide +kernel
theorem dX19_init_35 : decode cX19_init 35 = .ok (.putfield 53, 3) := by decide +kernel
theorem dX19_init_38 : decode cX19_init 38 = .ok (.aload_n 0, 1) := by decide +kernel
theorem dX19_init_39 : decode cX19_init 39 = .ok (.sipush 2400, 3) := by decide +kernel
theorem dX19_init_42 : decode cX19_init 42 = .ok (.newarray .int, 2) := by decide +kernel
theorem dX19_init_44 : decode cX19_init 44 = .ok (.putfield 22, 3) := by decide +kernel
theorem dX19_init_47 : decode cX19_init 47 = .ok (.aload_n 0, 1) := by decide +kernel
theorem dX19_init_48 : decode cX19_init 48 = .ok (.sipush 2400, 3) := by decide +kernel
theorem dX19_init_51 : decode cX19_init 51 = .ok (.newarray .int, 2) := by decide +kernel
theorem dX19_init_53 : decode cX19_init 53 = .ok (.putfield 41, 3) := by decide +kernel
theorem dX19_init_56 : decode cX19_init 56 = .ok (.aload_n 0, 1) := by decide +kernel
theorem dX19_init_57 : decode cX19_init 57 = .ok (.ldc 110, 2) := by decide +kernel
theorem dX19_init_59 : decode cX19_init 59 = .ok (.newarray .int, 2) := by decide +kernel
theorem dX19_init_61 : decode cX19_init 61 = .ok (.putfield 65, 3) := by decide +kernel
theorem dX19_init_64 : decode cX19_init 64 = .ok (.aload_n 0, 1) := by decide +kernel
theorem dX19_init_65 : decode cX19_init 65 = .ok (.sipush 2400, 3) := by decide +kernel
theorem dX19_init_68 : decode cX19_init 68 = .ok (.newarray .int, 2) := by decide +kernel
theorem dX19_init_70 : decode cX19_init 70 = .ok (.putfield 25, 3) := by decide +kernel
theorem dX19_init_73 : decode cX19_init 73 = .ok (.aload_n 0, 1) := by decide +kernel
theorem dX19_init_74 : decode cX19_init 74 = .ok (.sipush 2400, 3) := by decide +kernel
theorem dX19_init_77 : decode cX19_init 77 = .ok (.newarray .int, 2) := by decide +kernel
theorem dX19_init_79 : decode cX19_init 79 = .ok (.putfield 71, 3) := by decide +kernel
theorem dX19_init_82 : decode cX19_init 82 = .ok (.aload_n 0, 1) := by decide +kernel
theorem dX19_init_83 : decode cX19_init 83 = .ok (.ldc 111, 2) := by decide +kernel
theorem dX19_init_85 : decode cX19_init 85 = .ok (.newarray .long, 2) := by decide +kernel
theorem dX19_init_87 : decode cX19_init 87 = .ok (.putfield 99, 3) := by decide +kernel
theorem dX19_init_90 : decode cX19_init 90 = .ok (.aload_n 0, 1) := by decide +kernel
theorem dX19_init_91 : decode cX19_init 91 = .ok (.sipush 2592, 3) := by decide +kernel
theorem dX19_init_94 : decode cX19_init 94 = .ok (.newarray .int, 2) := by decide +kernel
theorem dX19_init_96 : decode cX19_init 96 = .ok (.putfield 90, 3) := by decide +kernel
theorem dX19_init_99 : decode cX19_init 99 = .ok (.aload_n 0, 1) := by decide +kernel
theorem dX19_init_100 : decode cX19_init 100 = .ok (.sipush 2592, 3) := by decide +kernel
theorem dX19_init_103 : decode cX19_init 103 = .ok (.newarray .int, 2) := by decide +kernel
theorem dX19_init_105 : decode cX19_init 105 = .ok (.putfield 93, 3) := by decide +kernel
theorem dX19_init_108 : decode cX19_init 108 = .ok (.aload_n 0, 1) := by decide +kernel
theorem dX19_init_109 : decode cX19_init 109 = .ok (.sipush 2592, 3) := by decide +kernel
theorem dX19_init_112 : decode cX19_init 112 = .ok (.newarray .int, 2) := by decide +kernel
theorem dX19_init_114 : decode cX19_init 114 = .ok (.putfield 96, 3) := by decide +kernel
theorem dX19_init_117 : decode cX19_init 117 = .ok (.aload_n 0, 1) := by decide +kernel
theorem dX19_init_118 : decode cX19_init 118 = .ok (.sipush 2592, 3) := by decide +kernel
theorem dX19_init_121 : decode cX19_init 121 = .ok (.newarray .int, 2) := by decide +kernel
theorem dX19_init_123 : decode cX19_init 123 = .ok (.putfield 87, 3) := by decide +kernel
theorem dX19_init_126 : decode cX19_init 126 = .ok (.aload_n 0, 1) := by decide +kernel
theorem dX19_init_127 : decode cX19_init 127 = .ok (.bipush 16, 2) := by decide +kernel
theorem dX19_init_129 : decode cX19_init 129 = .ok (.anewarray 112, 3) := by decide +kernel
theorem dX19_init_132 : decode cX19_init 132 = .ok (.putfield 114, 3) := by decide +kernel
theorem dX19_init_135 : decode cX19_init 135 = .ok (.aload_n 0, 1) := by decide +kernel
theorem dX19_init_136 : decode cX19_init 136 = .ok (.bipush 24, 2) := by decide +kernel
theorem dX19_init_138 : decode cX19_init 138 = .ok (.anewarray 118, 3) := by decide +kernel
theorem dX19_init_141 : decode cX19_init 141 = .ok (.putfield 120, 3) := by decide +kernel
theorem dX19_init_144 : decode cX19_init 144 = .ok (.aload_n 0, 1) := by decide +kernel
theorem dX19_init_145 : decode cX19_init 145 = .ok (.sipush 3584, 3) := by decide +kernel
theorem dX19_init_148 : decode cX19_init 148 = .ok (.newarray .int, 2) := by decide +kernel
theorem dX19_init_150 : decode cX19_init 150 = .ok (.putfield 124, 3) := by decide +kernel
theorem dX19_init_153 : decode cX19_init 153 = .ok (.aload_n 0, 1) := by decide +kernel
theorem dX19_init_154 : decode cX19_init 154 = .ok (.bipush 16, 2) := by decide +kernel
theorem dX19_init_156 : decode cX19_init 156 = .ok (.newarray .int, 2) := by decide +kernel
theorem dX19_init_158 : decode cX19_init 158 = .ok (.putfield 127, 3) := by decide +kernel
theorem dX19_init_161 : decode cX19_init 161 = .ok (.aload_n 0, 1) := by decide +kernel
theorem dX19_init_162 : decode cX19_init 162 = .ok (.sipush 256, 3) := by decide +kernel
theorem dX19_init_165 : decode cX19_init 165 = .ok (.newarray .int, 2) := by decide +kernel
theorem dX19_init_167 : decode cX19_init 167 = .ok (.putfield 130, 3) := by decide +kernel
theorem dX19_init_170 : decode cX19_init 170 = .ok (.aload_n 0, 1) := by decide +kernel
theorem dX19_init_171 : decode cX19_init 171 = .ok (.bipush 16, 2) := by decide +kernel
theorem dX19_init_173 : decode cX19_init 173 = .ok (.newarray .int, 2) := by decide +kernel
theorem dX19_init_175 : decode cX19_init 175 = .ok (.putfield 133, 3) := by decide +kernel
theorem dX19_init_178 : decode cX19_init 178 = .ok (.aload_n 0, 1) := by decide +kernel
theorem dX19_init_179 : decode cX19_init 179 = .ok (.bipush 24, 2) := by decide +kernel
theorem dX19_init_181 : decode cX19_init 181 = .ok (.newarray .boolean, 2) := by decide +kernel
theorem dX19_init_183 : decode cX19_init 183 = .ok (.putfield 136, 3) := by decide +kernel
theorem dX19_init_186 : decode cX19_init 186 = .ok (.iconst 0, 1) := by decide +kernel
theorem dX19_init_187 : decode cX19_init 187 = .ok (.istore_n 1, 1) := by decide +kernel
theorem dX19_init_188 : decode cX19_init 188 = .ok (.iload_n 1, 1) := by decide +kernel
theorem dX19_init_189 : decode cX19_init 189 = .ok (.sipush 2400, 3) := by decide +kernel
theorem dX19_init_192 : decode cX19_init 192 = .ok (.if_icmp .ge 16, 3) := by decide +kernel
theorem dX19_init_195 : decode cX19_init 195 = .ok (.aload_n 0, 1) := by decide +kernel
theorem dX19_init_196 : decode cX19_init 196 = .ok (.getfield 11, 3) := by decide +kernel
theorem dX19_init_199 : decode cX19_init 199 = .ok (.iload_n 1, 1) := by decide +kernel
theorem dX19_init_200 : decode cX19_init 200 = .ok (.iload_n 1, 1) := by decide +kernel
theorem dX19_init_201 : decode cX19_init 201 = .ok (.iastore, 1) := by decide +kernel
theorem dX19_init_202 : decode cX19_init 202 = .ok (.iinc 1 1, 3) := by decide +kernel
theorem dX19_init_205 : decode cX19_init 205 = .ok (.goto (-17), 3) := by decide +kernel
theorem dX19_init_208 : decode cX19_init 208 = .ok (.aload_n 0, 1) := by decide +kernel
theorem dX19_init_209 : decode cX19_init 209 = .ok (.sipush 2400, 3) := by decide +kernel
theorem dX19_init_212 : decode cX19_init 212 = .ok (.putfield 7, 3) := by decide +kernel
theorem dX19_init_215 : decode cX19_init 215 = .ok (.iconst 0, 1) := by decide +kernel
theorem dX19_init_216 : decode cX19_init 216 = .ok (.istore_n 1, 1) := by decide +kernel
theorem dX19_init_217 : decode cX19_init 217 = .ok (.iload_n 1, 1) := by decide +kernel
theorem dX19_init_218 : decode cX19_init 218 = .ok (.sipush 2400, 3) := by decide +kernel
theorem dX19_init_221 : decode cX19_init 221 = .ok (.if_icmp .ge 16, 3) := by decide +kernel
theorem dX19_init_224 : decode cX19_init 224 = .ok (.aload_n 0, 1) := by decide +kernel
theorem dX19_init_225 : decode cX19_init 225 = .ok (.getfield 41, 3) := by decide +kernel
theorem dX19_init_228 : decode cX19_init 228 = .ok (.iload_n 1, 1) := by decide +kernel
theorem dX19_init_229 : decode cX19_init 229 = .ok (.iload_n 1, 1) := by decide +kernel
theorem dX19_init_230 : decode cX19_init 230 = .ok (.iastore, 1) := by decide +kernel
theorem dX19_init_231 : decode cX19_init 231 = .ok (.iinc 1 1, 3) := by decide +kernel
theorem dX19_init_234 : decode cX19_init 234 = .ok (.goto (-17), 3) := by decide +kernel
theorem dX19_init_237 : decode cX19_init 237 = .ok (.aload_n 0, 1) := by decide +kernel
theorem dX19_init_238 : decode cX19_init 238 = .ok (.sipush 2400, 3) := by decide +kernel
theorem dX19_init_241 : decode cX19_init 241 = .ok (.putfield 38, 3) := by decide +kernel
theorem dX19_init_244 : decode cX19_init 244 = .ok (.iconst 0, 1) := by decide +kernel
theorem dX19_init_245 : decode cX19_init 245 = .ok (.istore_n 1, 1) := by decide +kernel
theorem dX19_init_246 : decode cX19_init 246 = .ok (.iload_n 1, 1) := by decide +kernel
theorem dX19_init_247 : decode cX19_init 247 = .ok (.sipush 2400, 3) := by decide +kernel
theorem dX19_init_250 : decode cX19_init 250 = .ok (.if_icmp .ge 16, 3) := by decide +kernel
theorem dX19_init_253 : decode cX19_init 253 = .ok (.aload_n 0, 1) := by decide +kernel
theorem dX19_init_254 : decode cX19_init 254 = .ok (.getfield 71, 3) := by decide +kernel
theorem dX19_init_257 : decode cX19_init 257 = .ok (.iload_n 1, 1) := by decide +kernel
theorem dX19_init_258 : decode cX19_init 258 = .ok (.iload_n 1, 1) := by decide +kernel
theorem dX19_init_259 : decode cX19_init 259 = .ok (.iastore, 1) := by decide +kernel
theorem dX19_init_260 : decode cX19_init 260 = .ok (.iinc 1 1, 3) := by decide +kernel
theorem dX19_init_263 : decode cX19_init 263 = .ok (.goto (-17), 3) := by decide +kernel
theorem dX19_init_266 : decode cX19_init 266 = .ok (.aload_n 0, 1) := by decide +kernel
theorem dX19_init_267 : decode cX19_init 267 = .ok (.sipush 2400, 3) := by decide +kernel
theorem dX19_init_270 : decode cX19_init 270 = .ok (.putfield 68, 3) := by decide +kernel
theorem dX19_init_273 : decode cX19_init 273 = .ok (.iconst 0, 1) := by decide +kernel
theorem dX19_init_274 : decode cX19_init 274 = .ok (.istore_n 1, 1) := by decide +kernel
theorem dX19_init_275 : decode cX19_init 275 = .ok (.iload_n 1, 1) := by decide +kernel
theorem dX19_init_276 : decode cX19_init 276 = .ok (.sipush 2592, 3) := by decide +kernel
theorem dX19_init_279 : decode cX19_init 279 = .ok (.if_icmp .ge 16, 3) := by decide +kernel
theorem dX19_init_282 : decode cX19_init 282 = .ok (.aload_n 0, 1) := by decide +kernel
theorem dX19_init_283 : decode cX19_init 283 = .ok (.getfield 87, 3) := by decide +kernel
theorem dX19_init_286 : decode cX19_init 286 = .ok (.iload_n 1, 1) := by decide +kernel
theorem dX19_init_287 : decode cX19_init 287 = .ok (.iload_n 1, 1) := by decide +kernel
theorem dX19_init_288 : decode cX19_init 288 = .ok (.iastore, 1) := by decide +kernel
theorem dX19_init_289 : decode cX19_init 289 = .ok (.iinc 1 1, 3) := by decide +kernel
theorem dX19_init_292 : decode cX19_init 292 = .ok (.goto (-17), 3) := by decide +kernel
theorem dX19_init_295 : decode cX19_init 295 = .ok (.aload_n 0, 1) := by decide +kernel
theorem dX19_init_296 : decode cX19_init 296 = .ok (.sipush 2592, 3) := by decide +kernel
theorem dX19_init_299 : decode cX19_init 299 = .ok (.putfield 84, 3) := by decide +kernel
theorem dX19_init_302 : decode cX19_init 302 = .ok (.return_, 1) := by decide +kernel
theorem dX19_thrown_0 : decode cX19_thrown 0 = .ok (.aload_n 0, 1) := by decide +kernel
theorem dX19_thrown_1 : decode cX19_thrown 1 = .ok (.getfield 140, 3) := by decide +kernel
theorem dX19_thrown_4 : decode cX19_thrown 4 = .ok (.ireturn, 1) := by decide +kernel
theorem dX19_stir_0 : decode cX19_stir 0 = .ok (.aload_n 0, 1) := by decide +kernel
theorem dX19_stir_1 : decode cX19_stir 1 = .ok (.aload_n 0, 1) := by decide +kernel
theorem dX19_stir_2 : decode cX19_stir 2 = .ok (.getfield 143, 3) := by decide +kernel
theorem dX19_stir_5 : decode cX19_stir 5 = .ok (.putfield 146, 3) := by decide +kernel
theorem dX19_stir_8 : decode cX19_stir 8 = .ok (.return_, 1) := by decide +kernel
theorem dX19_put_0 : decode cX19_put 0 = .ok (.aload_n 1, 1) := by decide +kernel
theorem dX19_put_1 : decode cX19_put 1 = .ok (.getfield 149, 3) := by decide +kernel
theorem dX19_put_4 : decode cX19_put 4 = .ok (.astore 6, 2) := by decide +kernel
theorem dX19_put_6 : decode cX19_put 6 = .ok (.aload 6, 2) := by decide +kernel
theorem dX19_put_8 : decode cX19_put 8 = .ok (.dup, 1) := by decide +kernel
theorem dX19_put_9 : decode cX19_put 9 = .ok (.getfield 155, 3) := by decide +kernel
theorem dX19_put_12 : decode cX19_put 12 = .ok (.iconst 1, 1) := by decide +kernel
theorem dX19_put_13 : decode cX19_put 13 = .ok (.iadd, 1) := by decide +kernel
theorem dX19_put_14 : decode cX19_put 14 = .ok (.putfield 155, 3) := by decide +kernel
theorem dX19_put_17 : decode cX19_put 17 = .ok (.aload 6, 2) := by decide +kernel
theorem dX19_put_19 : decode cX19_put 19 = .ok (.getfield 158, 3) := by decide +kernel
theorem dX19_put_22 : decode cX19_put 22 = .ok (.ifCond .ne 4, 3) := by decide +kernel
theorem dX19_put_25 : decode cX19_put 25 = .ok (.return_, 1) := by decide +kernel
theorem dX19_put_26 : decode cX19_put 26 = .ok (.iconst 0, 1) := by decide +kernel
theorem dX19_put_27 : decode cX19_put 27 = .ok (.istore 7, 2) := by decide +kernel
theorem dX19_put_29 : decode cX19_put 29 = .ok (.aload 6, 2) := by decide +kernel
theorem dX19_put_31 : decode cX19_put 31 = .ok (.getfield 162, 3) := by decide +kernel
theorem dX19_put_34 : decode cX19_put 34 = .ok (.ifCond .le 60, 3) := by decide +kernel
theorem dX19_put_37 : decode cX19_put 37 = .ok (.aload 6, 2) := by decide +kernel
theorem dX19_put_39 : decode cX19_put 39 = .ok (.getfield 165, 3) := by decide +kernel
theorem dX19_put_42 : decode cX19_put 42 = .ok (.iconst 0, 1) := by decide +kernel
theorem dX19_put_43 : decode cX19_put 43 = .ok (.iaload, 1) := by decide +kernel
theorem dX19_put_44 : decode cX19_put 44 = .ok (.istore 7, 2) := by decide +kernel
theorem dX19_put_46 : decode cX19_put 46 = .ok (.aload 6, 2) := by decide +kernel
theorem dX19_put_48 : decode cX19_put 48 = .ok (.dup, 1) := by decide +kernel
theorem dX19_put_49 : decode cX19_put 49 = .ok (.getfield 162, 3) := by decide +kernel
theorem dX19_put_52 : decode cX19_put 52 = .ok (.iconst 1, 1) := by decide +kernel
theorem dX19_put_53 : decode cX19_put 53 = .ok (.isub, 1) := by decide +kernel
theorem dX19_put_54 : decode cX19_put 54 = .ok (.putfield 162, 3) := by decide +kernel
theorem dX19_put_57 : decode cX19_put 57 = .ok (.iconst 0, 1) := by decide +kernel
theorem dX19_put_58 : decode cX19_put 58 = .ok (.istore 8, 2) := by decide +kernel
theorem dX19_put_60 : decode cX19_put 60 = .ok (.iload 8, 2) := by decide +kernel
theorem dX19_put_62 : decode cX19_put 62 = .ok (.aload 6, 2) := by decide +kernel
theorem dX19_put_64 : decode cX19_put 64 = .ok (.getfield 162, 3) := by decide +kernel
theorem dX19_put_67 : decode cX19_put 67 = .ok (.if_icmp .ge 27, 3) := by decide +kernel
theorem dX19_put_70 : decode cX19_put 70 = .ok (.aload 6, 2) := by decide +kernel
theorem dX19_put_72 : decode cX19_put 72 = .ok (.getfield 165, 3) := by decide +kernel
theorem dX19_put_75 : decode cX19_put 75 = .ok (.iload 8, 2) := by decide +kernel
theorem dX19_put_77 : decode cX19_put 77 = .ok (.aload 6, 2) := by decide +kernel
theorem dX19_put_79 : decode cX19_put 79 = .ok (.getfield 165, 3) := by decide +kernel
theorem dX19_put_82 : decode cX19_put 82 = .ok (.iload 8, 2) := by decide +kernel
theorem dX19_put_84 : decode cX19_put 84 = .ok (.iconst 1, 1) := by decide +kernel
theorem dX19_put_85 : decode cX19_put 85 = .ok (.iadd, 1) := by decide +kernel
theorem dX19_put_86 : decode cX19_put 86 = .ok (.iaload, 1) := by decide +kernel
theorem dX19_put_87 : decode cX19_put 87 = .ok (.iastore, 1) := by decide +kernel
theorem dX19_put_88 : decode cX19_put 88 = .ok (.iinc 8 1, 3) := by decide +kernel
theorem dX19_put_91 : decode cX19_put 91 = .ok (.goto (-31), 3) := by decide +kernel
theorem dX19_put_94 : decode cX19_put 94 = .ok (.iload 7, 2) := by decide +kernel
theorem dX19_put_96 : decode cX19_put 96 = .ok (.ifCond .eq 7, 3) := by decide +kernel
theorem dX19_put_99 : decode cX19_put 99 = .ok (.aload_n 0, 1) := by decide +kernel
theorem dX19_put_100 : decode cX19_put 100 = .ok (.invokevirtual 168, 3) := by decide +kernel
theorem dX19_put_103 : decode cX19_put 103 = .ok (.iload 7, 2) := by decide +kernel
theorem dX19_put_105 : decode cX19_put 105 = .ok (.iconst 1, 1) := by decide +kernel
theorem dX19_put_106 : decode cX19_put 106 = .ok (.if_icmp .ne 7, 3) := by decide +kernel
theorem dX19_put_109 : decode cX19_put 109 = .ok (.iconst 0, 1) := by decide +kernel
theorem dX19_put_110 : decode cX19_put 110 = .ok (.goto 14, 3) := by decide +kernel
theorem dX19_put_113 : decode cX19_put 113 = .ok (.iload 7, 2) := by decide +kernel
theorem dX19_put_115 : decode cX19_put 115 = .ok (.iconst 2, 1) := by decide +kernel
theorem dX19_put_116 : decode cX19_put 116 = .ok (.if_icmp .ne 7, 3) := by decide +kernel
theorem dX19_put_119 : decode cX19_put 119 = .ok (.iconst 2, 1) := by decide +kernel
theorem dX19_put_120 : decode cX19_put 120 = .ok (.goto 4, 3) := by decide +kernel
theorem dX19_put_123 : decode cX19_put 123 = .ok (.iconst 1, 1) := by decide +kernel
theorem dX19_put_124 : decode cX19_put 124 = .ok (.istore 8, 2) := by decide +kernel
theorem dX19_put_126 : decode cX19_put 126 = .ok (.aload_n 0, 1) := by decide +kernel
theorem dX19_put_127 : decode cX19_put 127 = .ok (.getfield 171, 3) := by decide +kernel
theorem dX19_put_130 : decode cX19_put 130 = .ok (.iload 8, 2) := by decide +kernel
theorem dX19_put_132 : decode cX19_put 132 = .ok (.iadd, 1) := by decide +kernel
theorem dX19_put_133 : decode cX19_put 133 = .ok (.sipush 512, 3) := by decide +kernel
theorem dX19_put_136 : decode cX19_put 136 = .ok (.if_icmp .le 8, 3) := by decide +kernel
theorem dX19_put_139 : decode cX19_put 139 = .ok (.aload_n 0, 1) := by decide +kernel
theorem dX19_put_140 : decode cX19_put 140 = .ok (.invokevirtual 168, 3) := by decide +kernel
theorem dX19_put_143 : decode cX19_put 143 = .ok (.return_, 1) := by decide +kernel
theorem dX19_put_144 : decode cX19_put 144 = .ok (.iload 7, 2) := by decide +kernel
theorem dX19_put_146 : decode cX19_put 146 = .ok (.ifCond .eq 9, 3) := by decide +kernel
theorem dX19_put_149 : decode cX19_put 149 = .ok (.iload 7, 2) := by decide +kernel
theorem dX19_put_151 : decode cX19_put 151 = .ok (.iconst 2, 1) := by decide +kernel
theorem dX19_put_152 : decode cX19_put 152 = .ok (.if_icmp .ne 24, 3) := by decide +kernel
theorem dX19_put_155 : decode cX19_put 155 = .ok (.aload_n 0, 1) := by decide +kernel
theorem dX19_put_156 : decode cX19_put 156 = .ok (.aload_n 1, 1) := by decide +kernel
theorem dX19_put_157 : decode cX19_put 157 = .ok (.iload_n 2, 1) := by decide +kernel
theorem dX19_put_158 : decode cX19_put 158 = .ok (.iload_n 3, 1) := by decide +kernel
theorem dX19_put_159 : decode cX19_put 159 = .ok (.iload 4, 2) := by decide +kernel
theorem dX19_put_161 : decode cX19_put 161 = .ok (.iload 5, 2) := by decide +kernel
theorem dX19_put_163 : decode cX19_put 163 = .ok (.aload_n 0, 1) := by decide +kernel
theorem dX19_put_164 : decode cX19_put 164 = .ok (.getfield 143, 3) := by decide +kernel
theorem dX19_put_167 : decode cX19_put 167 = .ok (.aload 6, 2) := by decide +kernel
theorem dX19_put_169 : decode cX19_put 169 = .ok (.getfield 174, 3) := by decide +kernel
theorem dX19_put_172 : decode cX19_put 172 = .ok (.iadd, 1) := by decide +kernel
theorem dX19_put_173 : decode cX19_put 173 = .ok (.invokevirtual 177, 3) := by decide +kernel
theorem dX19_put_176 : decode cX19_put 176 = .ok (.iload 7, 2) := by decide +kernel
theorem dX19_put_178 : decode cX19_put 178 = .ok (.iconst 2, 1) := by decide +kernel
theorem dX19_put_179 : decode cX19_put 179 = .ok (.if_icmp .ne 26, 3) := by decide +kernel
theorem dX19_put_182 : decode cX19_put 182 = .ok (.aload_n 0, 1) := by decide +kernel
theorem dX19_put_183 : decode cX19_put 183 = .ok (.aload_n 1, 1) := by decide +kernel
theorem dX19_put_184 : decode cX19_put 184 = .ok (.iload_n 2, 1) := by decide +kernel
theorem dX19_put_185 : decode cX19_put 185 = .ok (.iload_n 3, 1) := by decide +kernel
theorem dX19_put_186 : decode cX19_put 186 = .ok (.iload 4, 2) := by decide +kernel
theorem dX19_put_188 : decode cX19_put 188 = .ok (.iload 5, 2) := by decide +kernel
theorem dX19_put_190 : decode cX19_put 190 = .ok (.aload_n 0, 1) := by decide +kernel
theorem dX19_put_191 : decode cX19_put 191 = .ok (.getfield 143, 3) := by decide +kernel
theorem dX19_put_194 : decode cX19_put 194 = .ok (.iconst 3, 1) := by decide +kernel
theorem dX19_put_195 : decode cX19_put 195 = .ok (.aload 6, 2) := by decide +kernel
theorem dX19_put_197 : decode cX19_put 197 = .ok (.getfield 174, 3) := by decide +kernel
theorem dX19_put_200 : decode cX19_put 200 = .ok (.imul, 1) := by decide +kernel
theorem dX19_put_201 : decode cX19_put 201 = .ok (.iadd, 1) := by decide +kernel
theorem dX19_put_202 : decode cX19_put 202 = .ok (.invokevirtual 177, 3) := by decide +kernel
theorem dX19_put_205 : decode cX19_put 205 = .ok (.iload 7, 2) := by decide +kernel
theorem dX19_put_207 : decode cX19_put 207 = .ok (.iconst 3, 1) := by decide +kernel
theorem dX19_put_208 : decode cX19_put 208 = .ok (.if_icmp .ne 26, 3) := by decide +kernel
theorem dX19_put_211 : decode cX19_put 211 = .ok (.aload_n 0, 1) := by decide +kernel
theorem dX19_put_212 : decode cX19_put 212 = .ok (.aload_n 1, 1) := by decide +kernel
theorem dX19_put_213 : decode cX19_put 213 = .ok (.iload_n 2, 1) := by decide +kernel
theorem dX19_put_214 : decode cX19_put 214 = .ok (.iload_n 3, 1) := by decide +kernel
theorem dX19_put_215 : decode cX19_put 215 = .ok (.iload 4, 2) := by decide +kernel
theorem dX19_put_217 : decode cX19_put 217 = .ok (.iload 5, 2) := by decide +kernel
theorem dX19_put_219 : decode cX19_put 219 = .ok (.aload_n 0, 1) := by decide +kernel
theorem dX19_put_220 : decode cX19_put 220 = .ok (.getfield 143, 3) := by decide +kernel
theorem dX19_put_223 : decode cX19_put 223 = .ok (.iconst 4, 1) := by decide +kernel
theorem dX19_put_224 : decode cX19_put 224 = .ok (.aload 6, 2) := by decide +kernel
theorem dX19_put_226 : decode cX19_put 226 = .ok (.getfield 174, 3) := by decide +kernel
theorem dX19_put_229 : decode cX19_put 229 = .ok (.imul, 1) := by decide +kernel
theorem dX19_put_230 : decode cX19_put 230 = .ok (.iadd, 1) := by decide +kernel
theorem dX19_put_231 : decode cX19_put 231 = .ok (.invokevirtual 177, 3) := by decide +kernel
theorem dX19_put_234 : decode cX19_put 234 = .ok (.return_, 1) := by decide +kernel
theorem dX19_frame_0 : decode cX19_frame 0 = .ok (.bipush 7, 2) := by decide +kernel
theorem dX19_frame_2 : decode cX19_frame 2 = .ok (.aload_n 0, 1) := by decide +kernel
theorem dX19_frame_3 : decode cX19_frame 3 = .ok (.getfield 171, 3) := by decide +kernel
theorem dX19_frame_6 : decode cX19_frame 6 = .ok (.imul, 1) := by decide +kernel
theorem dX19_frame_7 : decode cX19_frame 7 = .ok (.istore 7, 2) := by decide +kernel
theorem dX19_frame_9 : decode cX19_frame 9 = .ok (.aload_n 0, 1) := by decide +kernel
theorem dX19_frame_10 : decode cX19_frame 10 = .ok (.getfield 124, 3) := by decide +kernel
theorem dX19_frame_13 : decode cX19_frame 13 = .ok (.iload 7, 2) := by decide +kernel
theorem dX19_frame_15 : decode cX19_frame 15 = .ok (.aload_n 1, 1) := by decide +kernel
theorem dX19_frame_16 : decode cX19_frame 16 = .ok (.getfield 149, 3) := by decide +kernel
theorem dX19_frame_19 : decode cX19_frame 19 = .ok (.getfield 181, 3) := by decide +kernel
theorem dX19_frame_22 : decode cX19_frame 22 = .ok (.iastore, 1) := by decide +kernel
theorem dX19_frame_23 : decode cX19_frame 23 = .ok (.aload_n 0, 1) := by decide +kernel
theorem dX19_frame_24 : decode cX19_frame 24 = .ok (.getfield 124, 3) := by decide +kernel
theorem dX19_frame_27 : decode cX19_frame 27 = .ok (.iload 7, 2) := by decide +kernel
theorem dX19_frame_29 : decode cX19_frame 29 = .ok (.iconst 1, 1) := by decide +kernel
theorem dX19_frame_30 : decode cX19_frame 30 = .ok (.iadd, 1) := by decide +kernel
theorem dX19_frame_31 : decode cX19_frame 31 = .ok (.aload_n 1, 1) := by decide +kernel
theorem dX19_frame_32 : decode cX19_frame 32 = .ok (.getfield 184, 3) := by decide +kernel
theorem dX19_frame_35 : decode cX19_frame 35 = .ok (.iastore, 1) := by decide +kernel
theorem dX19_frame_36 : decode cX19_frame 36 = .ok (.aload_n 0, 1) := by decide +kernel
theorem dX19_frame_37 : decode cX19_frame 37 = .ok (.getfield 124, 3) := by decide +kernel
theorem dX19_frame_40 : decode cX19_frame 40 = .ok (.iload 7, 2) := by decide +kernel
theorem dX19_frame_42 : decode cX19_frame 42 = .ok (.iconst 2, 1) := by decide +kernel
theorem dX19_frame_43 : decode cX19_frame 43 = .ok (.iadd, 1) := by decide +kernel
theorem dX19_frame_44 : decode cX19_frame 44 = .ok (.iload_n 2, 1) := by decide +kernel
theorem dX19_frame_45 : decode cX19_frame 45 = .ok (.iastore, 1) := by decide +kernel
theorem dX19_frame_46 : decode cX19_frame 46 = .ok (.aload_n 0, 1) := by decide +kernel
theorem dX19_frame_47 : decode cX19_frame 47 = .ok (.getfield 124, 3) := by decide +kernel
theorem dX19_frame_50 : decode cX19_frame 50 = .ok (.iload 7, 2) := by decide +kernel
theorem dX19_frame_52 : decode cX19_frame 52 = .ok (.iconst 3, 1) := by decide +kernel
theorem dX19_frame_53 : decode cX19_frame 53 = .ok (.iadd, 1) := by decide +kernel
theorem dX19_frame_54 : decode cX19_frame 54 = .ok (.iload_n 3, 1) := by decide +kernel
theorem dX19_frame_55 : decode cX19_frame 55 = .ok (.iastore, 1) := by decide +kernel
theorem dX19_frame_56 : decode cX19_frame 56 = .ok (.aload_n 0, 1) := by decide +kernel
theorem dX19_frame_57 : decode cX19_frame 57 = .ok (.getfield 124, 3) := by decide +kernel
theorem dX19_frame_60 : decode cX19_frame 60 = .ok (.iload 7, 2) := by decide +kernel
theorem dX19_frame_62 : decode cX19_frame 62 = .ok (.iconst 4, 1) := by decide +kernel
theorem dX19_frame_63 : decode cX19_frame 63 = .ok (.iadd, 1) := by decide +kernel
theorem dX19_frame_64 : decode cX19_frame 64 = .ok (.iload 4, 2) := by decide +kernel
theorem dX19_frame_66 : decode cX19_frame 66 = .ok (.iastore, 1) := by decide +kernel
theorem dX19_frame_67 : decode cX19_frame 67 = .ok (.aload_n 0, 1) := by decide +kernel
theorem dX19_frame_68 : decode cX19_frame 68 = .ok (.getfield 124, 3) := by decide +kernel
theorem dX19_frame_71 : decode cX19_frame 71 = .ok (.iload 7, 2) := by decide +kernel
theorem dX19_frame_73 : decode cX19_frame 73 = .ok (.iconst 5, 1) := by decide +kernel
theorem dX19_frame_74 : decode cX19_frame 74 = .ok (.iadd, 1) := by decide +kernel
theorem dX19_frame_75 : decode cX19_frame 75 = .ok (.iload 5, 2) := by decide +kernel
theorem dX19_frame_77 : decode cX19_frame 77 = .ok (.iconst (-1), 1) := by decide +kernel
theorem dX19_frame_78 : decode cX19_frame 78 = .ok (.if_icmp .ne 7, 3) := by decide +kernel
theorem dX19_frame_81 : decode cX19_frame 81 = .ok (.iconst (-1), 1) := by decide +kernel
theorem dX19_frame_82 : decode cX19_frame 82 = .ok (.goto 9, 3) := by decide +kernel
theorem dX19_frame_85 : decode cX19_frame 85 = .ok (.aload_n 0, 1) := by decide +kernel
theorem dX19_frame_86 : decode cX19_frame 86 = .ok (.iload 5, 2) := by decide +kernel
theorem dX19_frame_88 : decode cX19_frame 88 = .ok (.invokevirtual 187, 3) := by decide +kernel
theorem dX19_frame_91 : decode cX19_frame 91 = .ok (.iastore, 1) := by decide +kernel
theorem dX19_frame_92 : decode cX19_frame 92 = .ok (.aload_n 0, 1) := by decide +kernel
theorem dX19_frame_93 : decode cX19_frame 93 = .ok (.getfield 124, 3) := by decide +kernel
theorem dX19_frame_96 : decode cX19_frame 96 = .ok (.iload 7, 2) := by decide +kernel
theorem dX19_frame_98 : decode cX19_frame 98 = .ok (.bipush 6, 2) := by decide +kernel
theorem dX19_frame_100 : decode cX19_frame 100 = .ok (.iadd, 1) := by decide +kernel
theorem dX19_frame_101 : decode cX19_frame 101 = .ok (.iload 6, 2) := by decide +kernel
theorem dX19_frame_103 : decode cX19_frame 103 = .ok (.iastore, 1) := by decide +kernel
theorem dX19_frame_104 : decode cX19_frame 104 = .ok (.aload_n 0, 1) := by decide +kernel
theorem dX19_frame_105 : decode cX19_frame 105 = .ok (.dup, 1) := by decide +kernel
theorem dX19_frame_106 : decode cX19_frame 106 = .ok (.getfield 171, 3) := by decide +kernel
theorem dX19_frame_109 : decode cX19_frame 109 = .ok (.iconst 1, 1) := by decide +kernel
theorem dX19_frame_110 : decode cX19_frame 110 = .ok (.iadd, 1) := by decide +kernel
theorem dX19_frame_111 : decode cX19_frame 111 = .ok (.putfield 171, 3) := by decide +kernel
theorem dX19_frame_114 : decode cX19_frame 114 = .ok (.return_, 1) := by decide +kernel
theorem dX19_takeFrame_0 : decode cX19_takeFrame 0 = .ok (.aload_n 0, 1) := by decide +kernel
theorem dX19_takeFrame_1 : decode cX19_takeFrame 1 = .ok (.dup, 1) := by decide +kernel
theorem dX19_takeFrame_2 : decode cX19_takeFrame 2 = .ok (.getfield 171, 3) := by decide +kernel
theorem dX19_takeFrame_5 : decode cX19_takeFrame 5 = .ok (.iconst 1, 1) := by decide +kernel
theorem dX19_takeFrame_6 : decode cX19_takeFrame 6 = .ok (.isub, 1) := by decide +kernel
theorem dX19_takeFrame_7 : decode cX19_takeFrame 7 = .ok (.putfield 171, 3) := by decide +kernel
theorem dX19_takeFrame_10 : decode cX19_takeFrame 10 = .ok (.bipush 7, 2) := by decide +kernel
theorem dX19_takeFrame_12 : decode cX19_takeFrame 12 = .ok (.iload_n 1, 1) := by decide +kernel
theorem dX19_takeFrame_13 : decode cX19_takeFrame 13 = .ok (.imul, 1) := by decide +kernel
theorem dX19_takeFrame_14 : decode cX19_takeFrame 14 = .ok (.istore_n 2, 1) := by decide +kernel
theorem dX19_takeFrame_15 : decode cX19_takeFrame 15 = .ok (.iload_n 2, 1) := by decide +kernel
theorem dX19_takeFrame_16 : decode cX19_takeFrame 16 = .ok (.bipush 7, 2) := by decide +kernel
theorem dX19_takeFrame_18 : decode cX19_takeFrame 18 = .ok (.aload_n 0, 1) := by decide +kernel
theorem dX19_takeFrame_19 : decode cX19_takeFrame 19 = .ok (.getfield 171, 3) := by decide +kernel
theorem dX19_takeFrame_22 : decode cX19_takeFrame 22 = .ok (.imul, 1) := by decide +kernel
theorem dX19_takeFrame_23 : decode cX19_takeFrame 23 = .ok (.if_icmp .ge 24, 3) := by decide +kernel
theorem dX19_takeFrame_26 : decode cX19_takeFrame 26 = .ok (.aload_n 0, 1) := by decide +kernel
theorem dX19_takeFrame_27 : decode cX19_takeFrame 27 = .ok (.getfield 124, 3) := by decide +kernel
theorem dX19_takeFrame_30 : decode cX19_takeFrame 30 = .ok (.iload_n 2, 1) := by decide +kernel
theorem dX19_takeFrame_31 : decode cX19_takeFrame 31 = .ok (.aload_n 0, 1) := by decide +kernel
theorem dX19_takeFrame_32 : decode cX19_takeFrame 32 = .ok (.getfield 124, 3) := by decide +kernel
theorem dX19_takeFrame_35 : decode cX19_takeFrame 35 = .ok (.iload_n 2, 1) := by decide +kernel
theorem dX19_takeFrame_36 : decode cX19_takeFrame 36 = .ok (.bipush 7, 2) := by decide +kernel
theorem dX19_takeFrame_38 : decode cX19_takeFrame 38 = .ok (.iadd, 1) := by decide +kernel
theorem dX19_takeFrame_39 : decode cX19_takeFrame 39 = .ok (.iaload, 1) := by decide +kernel
theorem dX19_takeFrame_40 : decode cX19_takeFrame 40 = .ok (.iastore, 1) := by decide +kernel
theorem dX19_takeFrame_41 : decode cX19_takeFrame 41 = .ok (.iinc 2 1, 3) := by decide +kernel
theorem dX19_takeFrame_44 : decode cX19_takeFrame 44 = .ok (.goto (-29), 3) := by decide +kernel
theorem dX19_takeFrame_47 : decode cX19_takeFrame 47 = .ok (.return_, 1) := by decide +kernel
theorem dX19_carry_0 : decode cX19_carry 0 = .ok (.aload_n 1, 1) := by decide +kernel
theorem dX19_carry_1 : decode cX19_carry 1 = .ok (.getfield 149, 3) := by decide +kernel
theorem dX19_carry_4 : decode cX19_carry 4 = .ok (.getfield 191, 3) := by decide +kernel
theorem dX19_carry_7 : decode cX19_carry 7 = .ok (.bipush 20, 2) := by decide +kernel
theorem dX19_carry_9 : decode cX19_carry 9 = .ok (.isub, 1) := by decide +kernel
theorem dX19_carry_10 : decode cX19_carry 10 = .ok (.istore 4, 2) := by decide +kernel
theorem dX19_carry_12 : decode cX19_carry 12 = .ok (.aload_n 0, 1) := by decide +kernel
theorem dX19_carry_13 : decode cX19_carry 13 = .ok (.iload_n 3, 1) := by decide +kernel
theorem dX19_carry_14 : decode cX19_carry 14 = .ok (.iconst 5, 1) := by decide +kernel
theorem dX19_carry_15 : decode cX19_carry 15 = .ok (.invokevirtual 18, 3) := by decide +kernel
theorem dX19_carry_18 : decode cX19_carry 18 = .ok (.iload 4, 2) := by decide +kernel
theorem dX19_carry_20 : decode cX19_carry 20 = .ok (.if_icmp .gt 13, 3) := by decide +kernel
theorem dX19_carry_23 : decode cX19_carry 23 = .ok (.aload_n 0, 1) := by decide +kernel
theorem dX19_carry_24 : decode cX19_carry 24 = .ok (.aload_n 1, 1) := by decide +kernel
theorem dX19_carry_25 : decode cX19_carry 25 = .ok (.iload_n 2, 1) := by decide +kernel
theorem dX19_carry_26 : decode cX19_carry 26 = .ok (.iconst 2, 1) := by decide +kernel
theorem dX19_carry_27 : decode cX19_carry 27 = .ok (.iconst 0, 1) := by decide +kernel
theorem dX19_carry_28 : decode cX19_carry 28 = .ok (.iload_n 3, 1) := by decide +kernel
theorem dX19_carry_29 : decode cX19_carry 29 = .ok (.invokevirtual 194, 3) := by decide +kernel
theorem dX19_carry_32 : decode cX19_carry 32 = .ok (.return_, 1) := by decide +kernel
theorem dX19_carry_33 : decode cX19_carry 33 = .ok (.iload 4, 2) := by decide +kernel
theorem dX19_carry_35 : decode cX19_carry 35 = .ok (.bipush 8, 2) := by decide +kernel
theorem dX19_carry_37 : decode cX19_carry 37 = .ok (.idiv, 1) := by decide +kernel
theorem dX19_carry_38 : decode cX19_carry 38 = .ok (.bipush 8, 2) := by decide +kernel
theorem dX19_carry_40 : decode cX19_carry 40 = .ok (.imul, 1) := by decide +kernel
theorem dX19_carry_41 : decode cX19_carry 41 = .ok (.istore 5, 2) := by decide +kernel
theorem dX19_carry_43 : decode cX19_carry 43 = .ok (.aload_n 0, 1) := by decide +kernel
theorem dX19_carry_44 : decode cX19_carry 44 = .ok (.iload_n 3, 1) := by decide +kernel
theorem dX19_carry_45 : decode cX19_carry 45 = .ok (.iconst 5, 1) := by decide +kernel
theorem dX19_carry_46 : decode cX19_carry 46 = .ok (.invokevirtual 18, 3) := by decide +kernel
theorem dX19_carry_49 : decode cX19_carry 49 = .ok (.istore 6, 2) := by decide +kernel
theorem dX19_carry_51 : decode cX19_carry 51 = .ok (.iconst 0, 1) := by decide +kernel
theorem dX19_carry_52 : decode cX19_carry 52 = .ok (.istore 7, 2) := by decide +kernel
theorem dX19_carry_54 : decode cX19_carry 54 = .ok (.iload 7, 2) := by decide +kernel
theorem dX19_carry_56 : decode cX19_carry 56 = .ok (.iload 6, 2) := by decide +kernel
theorem dX19_carry_58 : decode cX19_carry 58 = .ok (.if_icmp .ge 137, 3) := by decide +kernel
theorem dX19_carry_61 : decode cX19_carry 61 = .ok (.aload_n 0, 1) := by decide +kernel
theorem dX19_carry_62 : decode cX19_carry 62 = .ok (.iload_n 3, 1) := by decide +kernel
theorem dX19_carry_63 : decode cX19_carry 63 = .ok (.invokevirtual 187, 3) := by decide +kernel
theorem dX19_carry_66 : decode cX19_carry 66 = .ok (.istore 8, 2) := by decide +kernel
theorem dX19_carry_68 : decode cX19_carry 68 = .ok (.aload_n 0, 1) := by decide +kernel
theorem dX19_carry_69 : decode cX19_carry 69 = .ok (.iload 8, 2) := by decide +kernel
theorem dX19_carry_71 : decode cX19_carry 71 = .ok (.bipush 6, 2) := by decide +kernel
theorem dX19_carry_73 : decode cX19_carry 73 = .ok (.aload_n 0, 1) := by decide +kernel
theorem dX19_carry_74 : decode cX19_carry 74 = .ok (.iload_n 3, 1) := by decide +kernel
theorem dX19_carry_75 : decode cX19_carry 75 = .ok (.bipush 6, 2) := by decide +kernel
theorem dX19_carry_77 : decode cX19_carry 77 = .ok (.invokevirtual 18, 3) := by decide +kernel
theorem dX19_carry_80 : decode cX19_carry 80 = .ok (.iload 7, 2) := by decide +kernel
theorem dX19_carry_82 : decode cX19_carry 82 = .ok (.iadd, 1) := by decide +kernel
theorem dX19_carry_83 : decode cX19_carry 83 = .ok (.invokevirtual 14, 3) := by decide +kernel
theorem dX19_carry_86 : decode cX19_carry 86 = .ok (.aload_n 0, 1) := by decide +kernel
theorem dX19_carry_87 : decode cX19_carry 87 = .ok (.iload 8, 2) := by decide +kernel
theorem dX19_carry_89 : decode cX19_carry 89 = .ok (.iconst 5, 1) := by decide +kernel
theorem dX19_carry_90 : decode cX19_carry 90 = .ok (.iload 5, 2) := by decide +kernel
theorem dX19_carry_92 : decode cX19_carry 92 = .ok (.iload 6, 2) := by decide +kernel
theorem dX19_carry_94 : decode cX19_carry 94 = .ok (.iload 7, 2) := by decide +kernel
theorem dX19_carry_96 : decode cX19_carry 96 = .ok (.isub, 1) := by decide +kernel
theorem dX19_carry_97 : decode cX19_carry 97 = .ok (.if_icmp .ge 8, 3) := by decide +kernel
theorem dX19_carry_100 : decode cX19_carry 100 = .ok (.iload 5, 2) := by decide +kernel
theorem dX19_carry_102 : decode cX19_carry 102 = .ok (.goto 8, 3) := by decide +kernel
theorem dX19_carry_105 : decode cX19_carry 105 = .ok (.iload 6, 2) := by decide +kernel
theorem dX19_carry_107 : decode cX19_carry 107 = .ok (.iload 7, 2) := by decide +kernel
theorem dX19_carry_109 : decode cX19_carry 109 = .ok (.isub, 1) := by decide +kernel
theorem dX19_carry_110 : decode cX19_carry 110 = .ok (.invokevirtual 14, 3) := by decide +kernel
theorem dX19_carry_113 : decode cX19_carry 113 = .ok (.aload_n 0, 1) := by decide +kernel
theorem dX19_carry_114 : decode cX19_carry 114 = .ok (.iload 8, 2) := by decide +kernel
theorem dX19_carry_116 : decode cX19_carry 116 = .ok (.bipush 7, 2) := by decide +kernel
theorem dX19_carry_118 : decode cX19_carry 118 = .ok (.aload_n 0, 1) := by decide +kernel
theorem dX19_carry_119 : decode cX19_carry 119 = .ok (.iload_n 3, 1) := by decide +kernel
theorem dX19_carry_120 : decode cX19_carry 120 = .ok (.bipush 7, 2) := by decide +kernel
theorem dX19_carry_122 : decode cX19_carry 122 = .ok (.invokevirtual 18, 3) := by decide +kernel
theorem dX19_carry_125 : decode cX19_carry 125 = .ok (.iconst 1, 1) := by decide +kernel
theorem dX19_carry_126 : decode cX19_carry 126 = .ok (.if_icmp .eq 13, 3) := by decide +kernel
theorem dX19_carry_129 : decode cX19_carry 129 = .ok (.iload 7, 2) := by decide +kernel
theorem dX19_carry_131 : decode cX19_carry 131 = .ok (.iload 5, 2) := by decide +kernel
theorem dX19_carry_133 : decode cX19_carry 133 = .ok (.iadd, 1) := by decide +kernel
theorem dX19_carry_134 : decode cX19_carry 134 = .ok (.iload 6, 2) := by decide +kernel
theorem dX19_carry_136 : decode cX19_carry 136 = .ok (.if_icmp .ge 7, 3) := by decide +kernel
theorem dX19_carry_139 : decode cX19_carry 139 = .ok (.iconst 1, 1) := by decide +kernel
theorem dX19_carry_140 : decode cX19_carry 140 = .ok (.goto 4, 3) := by decide +kernel
theorem dX19_carry_143 : decode cX19_carry 143 = .ok (.iconst 0, 1) := by decide +kernel
theorem dX19_carry_144 : decode cX19_carry 144 = .ok (.invokevirtual 14, 3) := by decide +kernel
theorem dX19_carry_147 : decode cX19_carry 147 = .ok (.aload_n 0, 1) := by decide +kernel
theorem dX19_carry_148 : decode cX19_carry 148 = .ok (.iload 8, 2) := by decide +kernel
theorem dX19_carry_150 : decode cX19_carry 150 = .ok (.bipush 8, 2) := by decide +kernel
theorem dX19_carry_152 : decode cX19_carry 152 = .ok (.iconst 1, 1) := by decide +kernel
theorem dX19_carry_153 : decode cX19_carry 153 = .ok (.invokevirtual 14, 3) := by decide +kernel
theorem dX19_carry_156 : decode cX19_carry 156 = .ok (.aload_n 1, 1) := by decide +kernel
theorem dX19_carry_157 : decode cX19_carry 157 = .ok (.getfield 197, 3) := by decide +kernel
theorem dX19_carry_160 : decode cX19_carry 160 = .ok (.dup, 1) := by decide +kernel
theorem dX19_carry_161 : decode cX19_carry 161 = .ok (.getfield 201, 3) := by decide +kernel
theorem dX19_carry_164 : decode cX19_carry 164 = .ok (.iconst 1, 1) := by decide +kernel
theorem dX19_carry_165 : decode cX19_carry 165 = .ok (.iadd, 1) := by decide +kernel
theorem dX19_carry_166 : decode cX19_carry 166 = .ok (.putfield 201, 3) := by decide +kernel
theorem dX19_carry_169 : decode cX19_carry 169 = .ok (.aload_n 0, 1) := by decide +kernel
theorem dX19_carry_170 : decode cX19_carry 170 = .ok (.aload_n 1, 1) := by decide +kernel
theorem dX19_carry_171 : decode cX19_carry 171 = .ok (.iload_n 2, 1) := by decide +kernel
theorem dX19_carry_172 : decode cX19_carry 172 = .ok (.iconst 2, 1) := by decide +kernel
theorem dX19_carry_173 : decode cX19_carry 173 = .ok (.iconst 0, 1) := by decide +kernel
theorem dX19_carry_174 : decode cX19_carry 174 = .ok (.iload 8, 2) := by decide +kernel
theorem dX19_carry_176 : decode cX19_carry 176 = .ok (.invokevirtual 194, 3) := by decide +kernel
theorem dX19_carry_179 : decode cX19_carry 179 = .ok (.aload_n 0, 1) := by decide +kernel
theorem dX19_carry_180 : decode cX19_carry 180 = .ok (.iload 8, 2) := by decide +kernel
theorem dX19_carry_182 : decode cX19_carry 182 = .ok (.invokevirtual 204, 3) := by decide +kernel
theorem dX19_carry_185 : decode cX19_carry 185 = .ok (.iload 7, 2) := by decide +kernel
theorem dX19_carry_187 : decode cX19_carry 187 = .ok (.iload 5, 2) := by decide +kernel
theorem dX19_carry_189 : decode cX19_carry 189 = .ok (.iadd, 1) := by decide +kernel
theorem dX19_carry_190 : decode cX19_carry 190 = .ok (.istore 7, 2) := by decide +kernel
theorem dX19_carry_192 : decode cX19_carry 192 = .ok (.goto (-138), 3) := by decide +kernel
theorem dX19_carry_195 : decode cX19_carry 195 = .ok (.return_, 1) := by decide +kernel
theorem dX19_knows_0 : decode cX19_knows 0 = .ok (.aload_n 0, 1) := by decide +kernel
theorem dX19_knows_1 : decode cX19_knows 1 = .ok (.getfield 143, 3) := by decide +kernel
theorem dX19_knows_4 : decode cX19_knows 4 = .ok (.aload_n 1, 1) := by decide +kernel
theorem dX19_knows_5 : decode cX19_knows 5 = .ok (.getfield 207, 3) := by decide +kernel
theorem dX19_knows_8 : decode cX19_knows 8 = .ok (.iload_n 2, 1) := by decide +kernel
theorem dX19_knows_9 : decode cX19_knows 9 = .ok (.iaload, 1) := by decide +kernel
theorem dX19_knows_10 : decode cX19_knows 10 = .ok (.isub, 1) := by decide +kernel
theorem dX19_knows_11 : decode cX19_knows 11 = .ok (.sipush 2500, 3) := by decide +kernel
theorem dX19_knows_14 : decode cX19_knows 14 = .ok (.if_icmp .gt 7, 3) := by decide +kernel
theorem dX19_knows_17 : decode cX19_knows 17 = .ok (.iconst 1, 1) := by decide +kernel
theorem dX19_knows_18 : decode cX19_knows 18 = .ok (.goto 4, 3) := by decide +kernel
theorem dX19_knows_21 : decode cX19_knows 21 = .ok (.iconst 0, 1) := by decide +kernel
theorem dX19_knows_22 : decode cX19_knows 22 = .ok (.ireturn, 1) := by decide +kernel
theorem dX19_ask_0 : decode cX19_ask 0 = .ok (.aload_n 0, 1) := by decide +kernel
theorem dX19_ask_1 : decode cX19_ask 1 = .ok (.aload_n 1, 1) := by decide +kernel
theorem dX19_ask_2 : decode cX19_ask 2 = .ok (.iconst (-1), 1) := by decide +kernel
theorem dX19_ask_3 : decode cX19_ask 3 = .ok (.iconst 0, 1) := by decide +kernel
theorem dX19_ask_4 : decode cX19_ask 4 = .ok (.ldc 210, 2) := by decide +kernel
theorem dX19_ask_6 : decode cX19_ask 6 = .ok (.aload_n 1, 1) := by decide +kernel
theorem dX19_ask_7 : decode cX19_ask 7 = .ok (.getfield 149, 3) := by decide +kernel
theorem dX19_ask_10 : decode cX19_ask 10 = .ok (.getfield 181, 3) := by decide +kernel
theorem dX19_ask_13 : decode cX19_ask 13 = .ok (.bipush 16, 2) := by decide +kernel
theorem dX19_ask_15 : decode cX19_ask 15 = .ok (.ishl, 1) := by decide +kernel
theorem dX19_ask_16 : decode cX19_ask 16 = .ok (.iadd, 1) := by decide +kernel
theorem dX19_ask_17 : decode cX19_ask 17 = .ok (.iload_n 2, 1) := by decide +kernel
theorem dX19_ask_18 : decode cX19_ask 18 = .ok (.iadd, 1) := by decide +kernel
theorem dX19_ask_19 : decode cX19_ask 19 = .ok (.iconst 1, 1) := by decide +kernel
theorem dX19_ask_20 : decode cX19_ask 20 = .ok (.iadd, 1) := by decide +kernel
theorem dX19_ask_21 : decode cX19_ask 21 = .ok (.iconst (-1), 1) := by decide +kernel
theorem dX19_ask_22 : decode cX19_ask 22 = .ok (.invokevirtual 194, 3) := by decide +kernel
theorem dX19_ask_25 : decode cX19_ask 25 = .ok (.return_, 1) := by decide +kernel
theorem dX19_deliver_0 : decode cX19_deliver 0 = .ok (.aload_n 0, 1) := by decide +kernel
theorem dX19_deliver_1 : decode cX19_deliver 1 = .ok (.aload_n 1, 1) := by decide +kernel
theorem dX19_deliver_2 : decode cX19_deliver 2 = .ok (.iload_n 2, 1) := by decide +kernel
theorem dX19_deliver_3 : decode cX19_deliver 3 = .ok (.invokevirtual 211, 3) := by decide +kernel
theorem dX19_deliver_6 : decode cX19_deliver 6 = .ok (.ifCond .eq 11, 3) := by decide +kernel
theorem dX19_deliver_9 : decode cX19_deliver 9 = .ok (.aload_n 0, 1) := by decide +kernel
theorem dX19_deliver_10 : decode cX19_deliver 10 = .ok (.aload_n 1, 1) := by decide +kernel
theorem dX19_deliver_11 : decode cX19_deliver 11 = .ok (.iload_n 2, 1) := by decide +kernel
theorem dX19_deliver_12 : decode cX19_deliver 12 = .ok (.iload_n 3, 1) := by decide +kernel
theorem dX19_deliver_13 : decode cX19_deliver 13 = .ok (.invokevirtual 215, 3) := by decide +kernel
theorem dX19_deliver_16 : decode cX19_deliver 16 = .ok (.return_, 1) := by decide +kernel
theorem dX19_deliver_17 : decode cX19_deliver 17 = .ok (.aload_n 1, 1) := by decide +kernel
theorem dX19_deliver_18 : decode cX19_deliver 18 = .ok (.iload_n 2, 1) := by decide +kernel
theorem dX19_deliver_19 : decode cX19_deliver 19 = .ok (.invokevirtual 219, 3) := by decide +kernel
theorem dX19_deliver_22 : decode cX19_deliver 22 = .ok (.istore 4, 2) := by decide +kernel
theorem dX19_deliver_24 : decode cX19_deliver 24 = .ok (.aload_n 1, 1) := by decide +kernel
theorem dX19_deliver_25 : decode cX19_deliver 25 = .ok (.getfield 223, 3) := by decide +kernel
theorem dX19_deliver_28 : decode cX19_deliver 28 = .ok (.aload_n 1, 1) := by decide +kernel
theorem dX19_deliver_29 : decode cX19_deliver 29 = .ok (.getfield 226, 3) := by decide +kernel
theorem dX19_deliver_32 : decode cX19_deliver 32 = .ok (.aload_n 0, 1) := by decide +kernel
theorem dX19_deliver_33 : decode cX19_deliver 33 = .ok (.iload_n 3, 1) := by decide +kernel
theorem dX19_deliver_34 : decode cX19_deliver 34 = .ok (.invokevirtual 187, 3) := by decide +kernel
theorem dX19_deliver_37 : decode cX19_deliver 37 = .ok (.iastore, 1) := by decide +kernel
theorem dX19_deliver_38 : decode cX19_deliver 38 = .ok (.aload_n 1, 1) := by decide +kernel
theorem dX19_deliver_39 : decode cX19_deliver 39 = .ok (.getfield 229, 3) := by decide +kernel
theorem dX19_deliver_42 : decode cX19_deliver 42 = .ok (.aload_n 1, 1) := by decide +kernel
theorem dX19_deliver_43 : decode cX19_deliver 43 = .ok (.getfield 226, 3) := by decide +kernel
theorem dX19_deliver_46 : decode cX19_deliver 46 = .ok (.iload_n 2, 1) := by decide +kernel
theorem dX19_deliver_47 : decode cX19_deliver 47 = .ok (.iastore, 1) := by decide +kernel
theorem dX19_deliver_48 : decode cX19_deliver 48 = .ok (.aload_n 1, 1) := by decide +kernel
theorem dX19_deliver_49 : decode cX19_deliver 49 = .ok (.dup, 1) := by decide +kernel
theorem dX19_deliver_50 : decode cX19_deliver 50 = .ok (.getfield 226, 3) := by decide +kernel
theorem dX19_deliver_53 : decode cX19_deliver 53 = .ok (.iconst 1, 1) := by decide +kernel
theorem dX19_deliver_54 : decode cX19_deliver 54 = .ok (.iadd, 1) := by decide +kernel
theorem dX19_deliver_55 : decode cX19_deliver 55 = .ok (.putfield 226, 3) := by decide +kernel
theorem dX19_deliver_58 : decode cX19_deliver 58 = .ok (.iload 4, 2) := by decide +kernel
theorem dX19_deliver_60 : decode cX19_deliver 60 = .ok (.ifCond .ne 42, 3) := by decide +kernel
theorem dX19_deliver_63 : decode cX19_deliver 63 = .ok (.aload_n 1, 1) := by decide +kernel
theorem dX19_deliver_64 : decode cX19_deliver 64 = .ok (.getfield 232, 3) := by decide +kernel
theorem dX19_deliver_67 : decode cX19_deliver 67 = .ok (.aload_n 1, 1) := by decide +kernel
theorem dX19_deliver_68 : decode cX19_deliver 68 = .ok (.getfield 235, 3) := by decide +kernel
theorem dX19_deliver_71 : decode cX19_deliver 71 = .ok (.iload_n 2, 1) := by decide +kernel
theorem dX19_deliver_72 : decode cX19_deliver 72 = .ok (.iastore, 1) := by decide +kernel
theorem dX19_deliver_73 : decode cX19_deliver 73 = .ok (.aload_n 1, 1) := by decide +kernel
theorem dX19_deliver_74 : decode cX19_deliver 74 = .ok (.getfield 238, 3) := by decide +kernel
theorem dX19_deliver_77 : decode cX19_deliver 77 = .ok (.aload_n 1, 1) := by decide +kernel
theorem dX19_deliver_78 : decode cX19_deliver 78 = .ok (.getfield 235, 3) := by decide +kernel
theorem dX19_deliver_81 : decode cX19_deliver 81 = .ok (.aload_n 0, 1) := by decide +kernel
theorem dX19_deliver_82 : decode cX19_deliver 82 = .ok (.getfield 143, 3) := by decide +kernel
theorem dX19_deliver_85 : decode cX19_deliver 85 = .ok (.iastore, 1) := by decide +kernel
theorem dX19_deliver_86 : decode cX19_deliver 86 = .ok (.aload_n 1, 1) := by decide +kernel
theorem dX19_deliver_87 : decode cX19_deliver 87 = .ok (.dup, 1) := by decide +kernel
theorem dX19_deliver_88 : decode cX19_deliver 88 = .ok (.getfield 235, 3) := by decide +kernel
theorem dX19_deliver_91 : decode cX19_deliver 91 = .ok (.iconst 1, 1) := by decide +kernel
theorem dX19_deliver_92 : decode cX19_deliver 92 = .ok (.iadd, 1) := by decide +kernel
theorem dX19_deliver_93 : decode cX19_deliver 93 = .ok (.putfield 235, 3) := by decide +kernel
theorem dX19_deliver_96 : decode cX19_deliver 96 = .ok (.aload_n 0, 1) := by decide +kernel
theorem dX19_deliver_97 : decode cX19_deliver 97 = .ok (.aload_n 1, 1) := by decide +kernel
theorem dX19_deliver_98 : decode cX19_deliver 98 = .ok (.iload_n 2, 1) := by decide +kernel
theorem dX19_deliver_99 : decode cX19_deliver 99 = .ok (.invokevirtual 241, 3) := by decide +kernel
theorem dX19_deliver_102 : decode cX19_deliver 102 = .ok (.aload_n 1, 1) := by decide +kernel
theorem dX19_deliver_103 : decode cX19_deliver 103 = .ok (.getfield 226, 3) := by decide +kernel
theorem dX19_deliver_106 : decode cX19_deliver 106 = .ok (.bipush 16, 2) := by decide +kernel
theorem dX19_deliver_108 : decode cX19_deliver 108 = .ok (.if_icmp .le 43, 3) := by decide +kernel
theorem dX19_deliver_111 : decode cX19_deliver 111 = .ok (.aload_n 1, 1) := by decide +kernel
theorem dX19_deliver_112 : decode cX19_deliver 112 = .ok (.getfield 229, 3) := by decide +kernel
theorem dX19_deliver_115 : decode cX19_deliver 115 = .ok (.iconst 0, 1) := by decide +kernel
theorem dX19_deliver_116 : decode cX19_deliver 116 = .ok (.iaload, 1) := by decide +kernel
theorem dX19_deliver_117 : decode cX19_deliver 117 = .ok (.istore 5, 2) := by decide +kernel
theorem dX19_deliver_119 : decode cX19_deliver 119 = .ok (.aload_n 0, 1) := by decide +kernel
theorem dX19_deliver_120 : decode cX19_deliver 120 = .ok (.aload_n 1, 1) := by decide +kernel
theorem dX19_deliver_121 : decode cX19_deliver 121 = .ok (.iconst 0, 1) := by decide +kernel
theorem dX19_deliver_122 : decode cX19_deliver 122 = .ok (.invokevirtual 245, 3) := by decide +kernel
theorem dX19_deliver_125 : decode cX19_deliver 125 = .ok (.invokevirtual 204, 3) := by decide +kernel
theorem dX19_deliver_128 : decode cX19_deliver 128 = .ok (.aload_n 0, 1) := by decide +kernel
theorem dX19_deliver_129 : decode cX19_deliver 129 = .ok (.invokevirtual 168, 3) := by decide +kernel
theorem dX19_deliver_132 : decode cX19_deliver 132 = .ok (.aload_n 1, 1) := by decide +kernel
theorem dX19_deliver_133 : decode cX19_deliver 133 = .ok (.iload 5, 2) := by decide +kernel
theorem dX19_deliver_135 : decode cX19_deliver 135 = .ok (.invokevirtual 219, 3) := by decide +kernel
theorem dX19_deliver_138 : decode cX19_deliver 138 = .ok (.ifCond .ne 13, 3) := by decide +kernel
theorem dX19_deliver_141 : decode cX19_deliver 141 = .ok (.aload_n 1, 1) := by decide +kernel
theorem dX19_deliver_142 : decode cX19_deliver 142 = .ok (.aload_n 1, 1) := by decide +kernel
theorem dX19_deliver_143 : decode cX19_deliver 143 = .ok (.iload 5, 2) := by decide +kernel
theorem dX19_deliver_145 : decode cX19_deliver 145 = .ok (.invokevirtual 248, 3) := by decide +kernel
theorem dX19_deliver_148 : decode cX19_deliver 148 = .ok (.invokevirtual 251, 3) := by decide +kernel
theorem dX19_deliver_151 : decode cX19_deliver 151 = .ok (.return_, 1) := by decide +kernel
theorem dX19_firstWaiting_0 : decode cX19_firstWaiting 0 = .ok (.iconst 0, 1) := by decide +kernel
theorem dX19_firstWaiting_1 : decode cX19_firstWaiting 1 = .ok (.istore_n 3, 1) := by decide +kernel
theorem dX19_firstWaiting_2 : decode cX19_firstWaiting 2 = .ok (.iload_n 3, 1) := by decide +kernel
theorem dX19_firstWaiting_3 : decode cX19_firstWaiting 3 = .ok (.aload_n 1, 1) := by decide +kernel
theorem dX19_firstWaiting_4 : decode cX19_firstWaiting 4 = .ok (.getfield 226, 3) := by decide +kernel
theorem dX19_firstWaiting_7 : decode cX19_firstWaiting 7 = .ok (.if_icmp .ge 25, 3) := by decide +kernel
theorem dX19_firstWaiting_10 : decode cX19_firstWaiting 10 = .ok (.aload_n 1, 1) := by decide +kernel
theorem dX19_firstWaiting_11 : decode cX19_firstWaiting 11 = .ok (.getfield 229, 3) := by decide +kernel
theorem dX19_firstWaiting_14 : decode cX19_firstWaiting 14 = .ok (.iload_n 3, 1) := by decide +kernel
theorem dX19_firstWaiting_15 : decode cX19_firstWaiting 15 = .ok (.iaload, 1) := by decide +kernel
theorem dX19_firstWaiting_16 : decode cX19_firstWaiting 16 = .ok (.iload_n 2, 1) := by decide +kernel
theorem dX19_firstWaiting_17 : decode cX19_firstWaiting 17 = .ok (.if_icmp .ne 9, 3) := by decide +kernel
theorem dX19_firstWaiting_20 : decode cX19_firstWaiting 20 = .ok (.aload_n 1, 1) := by decide +kernel
theorem dX19_firstWaiting_21 : decode cX19_firstWaiting 21 = .ok (.iload_n 3, 1) := by decide +kernel
theorem dX19_firstWaiting_22 : decode cX19_firstWaiting 22 = .ok (.invokevirtual 245, 3) := by decide +kernel
theorem dX19_firstWaiting_25 : decode cX19_firstWaiting 25 = .ok (.ireturn, 1) := by decide +kernel
theorem dX19_firstWaiting_26 : decode cX19_firstWaiting 26 = .ok (.iinc 3 1, 3) := by decide +kernel
theorem dX19_firstWaiting_29 : decode cX19_firstWaiting 29 = .ok (.goto (-27), 3) := by decide +kernel
theorem dX19_firstWaiting_32 : decode cX19_firstWaiting 32 = .ok (.iconst (-1), 1) := by decide +kernel
theorem dX19_firstWaiting_33 : decode cX19_firstWaiting 33 = .ok (.ireturn, 1) := by decide +kernel
theorem dX19_askings_0 : decode cX19_askings 0 = .ok (.iconst 0, 1) := by decide +kernel
theorem dX19_askings_1 : decode cX19_askings 1 = .ok (.istore_n 2, 1) := by decide +kernel
theorem dX19_askings_2 : decode cX19_askings 2 = .ok (.iload_n 2, 1) := by decide +kernel
theorem dX19_askings_3 : decode cX19_askings 3 = .ok (.aload_n 1, 1) := by decide +kernel
theorem dX19_askings_4 : decode cX19_askings 4 = .ok (.getfield 235, 3) := by decide +kernel
theorem dX19_askings_7 : decode cX19_askings 7 = .ok (.if_icmp .ge 146, 3) := by decide +kernel
theorem dX19_askings_10 : decode cX19_askings 10 = .ok (.aload_n 1, 1) := by decide +kernel
theorem dX19_askings_11 : decode cX19_askings 11 = .ok (.getfield 232, 3) := by decide +kernel
theorem dX19_askings_14 : decode cX19_askings 14 = .ok (.iload_n 2, 1) := by decide +kernel
theorem dX19_askings_15 : decode cX19_askings 15 = .ok (.iaload, 1) := by decide +kernel
theorem dX19_askings_16 : decode cX19_askings 16 = .ok (.istore_n 3, 1) := by decide +kernel
theorem dX19_askings_17 : decode cX19_askings 17 = .ok (.aload_n 0, 1) := by decide +kernel
theorem dX19_askings_18 : decode cX19_askings 18 = .ok (.getfield 143, 3) := by decide +kernel
theorem dX19_askings_21 : decode cX19_askings 21 = .ok (.aload_n 1, 1) := by decide +kernel
theorem dX19_askings_22 : decode cX19_askings 22 = .ok (.getfield 238, 3) := by decide +kernel
theorem dX19_askings_25 : decode cX19_askings 25 = .ok (.iload_n 2, 1) := by decide +kernel
theorem dX19_askings_26 : decode cX19_askings 26 = .ok (.iaload, 1) := by decide +kernel
theorem dX19_askings_27 : decode cX19_askings 27 = .ok (.isub, 1) := by decide +kernel
theorem dX19_askings_28 : decode cX19_askings 28 = .ok (.istore 4, 2) := by decide +kernel
theorem dX19_askings_30 : decode cX19_askings 30 = .ok (.iload 4, 2) := by decide +kernel
theorem dX19_askings_32 : decode cX19_askings 32 = .ok (.sipush 200, 3) := by decide +kernel
theorem dX19_askings_35 : decode cX19_askings 35 = .ok (.if_icmp .lt 92, 3) := by decide +kernel
theorem dX19_askings_38 : decode cX19_askings 38 = .ok (.aload_n 1, 1) := by decide +kernel
theorem dX19_askings_39 : decode cX19_askings 39 = .ok (.iload_n 2, 1) := by decide +kernel
theorem dX19_askings_40 : decode cX19_askings 40 = .ok (.invokevirtual 251, 3) := by decide +kernel
theorem dX19_askings_43 : decode cX19_askings 43 = .ok (.iconst 0, 1) := by decide +kernel
theorem dX19_askings_44 : decode cX19_askings 44 = .ok (.istore 5, 2) := by decide +kernel
theorem dX19_askings_46 : decode cX19_askings 46 = .ok (.aload_n 0, 1) := by decide +kernel
theorem dX19_askings_47 : decode cX19_askings 47 = .ok (.aload_n 1, 1) := by decide +kernel
theorem dX19_askings_48 : decode cX19_askings 48 = .ok (.iload_n 3, 1) := by decide +kernel
theorem dX19_askings_49 : decode cX19_askings 49 = .ok (.invokevirtual 254, 3) := by decide +kernel
theorem dX19_askings_52 : decode cX19_askings 52 = .ok (.istore 6, 2) := by decide +kernel
theorem dX19_askings_54 : decode cX19_askings 54 = .ok (.iload 6, 2) := by decide +kernel
theorem dX19_askings_56 : decode cX19_askings 56 = .ok (.iconst (-1), 1) := by decide +kernel
theorem dX19_askings_57 : decode cX19_askings 57 = .ok (.if_icmp .eq 26, 3) := by decide +kernel
theorem dX19_askings_60 : decode cX19_askings 60 = .ok (.aload_n 0, 1) := by decide +kernel
theorem dX19_askings_61 : decode cX19_askings 61 = .ok (.getfield 127, 3) := by decide +kernel
theorem dX19_askings_64 : decode cX19_askings 64 = .ok (.iload 5, 2) := by decide +kernel
theorem dX19_askings_66 : decode cX19_askings 66 = .ok (.iload 6, 2) := by decide +kernel
theorem dX19_askings_68 : decode cX19_askings 68 = .ok (.iastore, 1) := by decide +kernel
theorem dX19_askings_69 : decode cX19_askings 69 = .ok (.iinc 5 1, 3) := by decide +kernel
theorem dX19_askings_72 : decode cX19_askings 72 = .ok (.aload_n 0, 1) := by decide +kernel
theorem dX19_askings_73 : decode cX19_askings 73 = .ok (.aload_n 1, 1) := by decide +kernel
theorem dX19_askings_74 : decode cX19_askings 74 = .ok (.iload_n 3, 1) := by decide +kernel
theorem dX19_askings_75 : decode cX19_askings 75 = .ok (.invokevirtual 254, 3) := by decide +kernel
theorem dX19_askings_78 : decode cX19_askings 78 = .ok (.istore 6, 2) := by decide +kernel
theorem dX19_askings_80 : decode cX19_askings 80 = .ok (.goto (-26), 3) := by decide +kernel
theorem dX19_askings_83 : decode cX19_askings 83 = .ok (.iconst 0, 1) := by decide +kernel
theorem dX19_askings_84 : decode cX19_askings 84 = .ok (.istore 7, 2) := by decide +kernel
theorem dX19_askings_86 : decode cX19_askings 86 = .ok (.iload 7, 2) := by decide +kernel
theorem dX19_askings_88 : decode cX19_askings 88 = .ok (.iload 5, 2) := by decide +kernel
theorem dX19_askings_90 : decode cX19_askings 90 = .ok (.if_icmp .ge 34, 3) := by decide +kernel
theorem dX19_askings_93 : decode cX19_askings 93 = .ok (.aload_n 0, 1) := by decide +kernel
theorem dX19_askings_94 : decode cX19_askings 94 = .ok (.getfield 127, 3) := by decide +kernel
theorem dX19_askings_97 : decode cX19_askings 97 = .ok (.iload 7, 2) := by decide +kernel
theorem dX19_askings_99 : decode cX19_askings 99 = .ok (.iaload, 1) := by decide +kernel
theorem dX19_askings_100 : decode cX19_askings 100 = .ok (.istore 8, 2) := by decide +kernel
theorem dX19_askings_102 : decode cX19_askings 102 = .ok (.aload_n 0, 1) := by decide +kernel
theorem dX19_askings_103 : decode cX19_askings 103 = .ok (.aload_n 1, 1) := by decide +kernel
theorem dX19_askings_104 : decode cX19_askings 104 = .ok (.getfield 197, 3) := by decide +kernel
theorem dX19_askings_107 : decode cX19_askings 107 = .ok (.iload 8, 2) := by decide +kernel
theorem dX19_askings_109 : decode cX19_askings 109 = .ok (.invokevirtual 258, 3) := by decide +kernel
theorem dX19_askings_112 : decode cX19_askings 112 = .ok (.aload_n 0, 1) := by decide +kernel
theorem dX19_askings_113 : decode cX19_askings 113 = .ok (.iload 8, 2) := by decide +kernel
theorem dX19_askings_115 : decode cX19_askings 115 = .ok (.invokevirtual 204, 3) := by decide +kernel
theorem dX19_askings_118 : decode cX19_askings 118 = .ok (.iinc 7 1, 3) := by decide +kernel
theorem dX19_askings_121 : decode cX19_askings 121 = .ok (.goto (-35), 3) := by decide +kernel
theorem dX19_askings_124 : decode cX19_askings 124 = .ok (.goto 26, 3) := by decide +kernel
theorem dX19_askings_127 : decode cX19_askings 127 = .ok (.iload 4, 2) := by decide +kernel
theorem dX19_askings_129 : decode cX19_askings 129 = .ok (.bipush 20, 2) := by decide +kernel
theorem dX19_askings_131 : decode cX19_askings 131 = .ok (.if_icmp .eq 10, 3) := by decide +kernel
theorem dX19_askings_134 : decode cX19_askings 134 = .ok (.iload 4, 2) := by decide +kernel
theorem dX19_askings_136 : decode cX19_askings 136 = .ok (.bipush 40, 2) := by decide +kernel
theorem dX19_askings_138 : decode cX19_askings 138 = .ok (.if_icmp .ne 9, 3) := by decide +kernel
theorem dX19_askings_141 : decode cX19_askings 141 = .ok (.aload_n 0, 1) := by decide +kernel
theorem dX19_askings_142 : decode cX19_askings 142 = .ok (.aload_n 1, 1) := by decide +kernel
theorem dX19_askings_143 : decode cX19_askings 143 = .ok (.iload_n 3, 1) := by decide +kernel
theorem dX19_askings_144 : decode cX19_askings 144 = .ok (.invokevirtual 241, 3) := by decide +kernel
theorem dX19_askings_147 : decode cX19_askings 147 = .ok (.iinc 2 1, 3) := by decide +kernel
theorem dX19_askings_150 : decode cX19_askings 150 = .ok (.goto (-148), 3) := by decide +kernel
theorem dX19_askings_153 : decode cX19_askings 153 = .ok (.return_, 1) := by decide +kernel
theorem dX19_make_0 : decode cX19_make 0 = .ok (.aload_n 0, 1) := by decide +kernel
theorem dX19_make_1 : decode cX19_make 1 = .ok (.invokevirtual 262, 3) := by decide +kernel
theorem dX19_make_4 : decode cX19_make 4 = .ok (.istore 6, 2) := by decide +kernel
theorem dX19_make_6 : decode cX19_make 6 = .ok (.aload_n 0, 1) := by decide +kernel
theorem dX19_make_7 : decode cX19_make 7 = .ok (.iload 6, 2) := by decide +kernel
theorem dX19_make_9 : decode cX19_make 9 = .ok (.iconst 0, 1) := by decide +kernel
theorem dX19_make_10 : decode cX19_make 10 = .ok (.iload 4, 2) := by decide +kernel
theorem dX19_make_12 : decode cX19_make 12 = .ok (.invokevirtual 14, 3) := by decide +kernel
theorem dX19_make_15 : decode cX19_make 15 = .ok (.aload_n 0, 1) := by decide +kernel
theorem dX19_make_16 : decode cX19_make 16 = .ok (.iload 6, 2) := by decide +kernel
theorem dX19_make_18 : decode cX19_make 18 = .ok (.iconst 1, 1) := by decide +kernel
theorem dX19_make_19 : decode cX19_make 19 = .ok (.iload 5, 2) := by decide +kernel
theorem dX19_make_21 : decode cX19_make 21 = .ok (.invokevirtual 14, 3) := by decide +kernel
theorem dX19_make_24 : decode cX19_make 24 = .ok (.aload_n 0, 1) := by decide +kernel
theorem dX19_make_25 : decode cX19_make 25 = .ok (.iload 6, 2) := by decide +kernel
theorem dX19_make_27 : decode cX19_make 27 = .ok (.iconst 2, 1) := by decide +kernel
theorem dX19_make_28 : decode cX19_make 28 = .ok (.iload_n 2, 1) := by decide +kernel
theorem dX19_make_29 : decode cX19_make 29 = .ok (.invokevirtual 14, 3) := by decide +kernel
theorem dX19_make_32 : decode cX19_make 32 = .ok (.aload_n 0, 1) := by decide +kernel
theorem dX19_make_33 : decode cX19_make 33 = .ok (.iload 6, 2) := by decide +kernel
theorem dX19_make_35 : decode cX19_make 35 = .ok (.iconst 3, 1) := by decide +kernel
theorem dX19_make_36 : decode cX19_make 36 = .ok (.aload_n 1, 1) := by decide +kernel
theorem dX19_make_37 : decode cX19_make 37 = .ok (.getfield 266, 3) := by decide +kernel
theorem dX19_make_40 : decode cX19_make 40 = .ok (.invokevirtual 14, 3) := by decide +kernel
theorem dX19_make_43 : decode cX19_make 43 = .ok (.aload_n 1, 1) := by decide +kernel
theorem dX19_make_44 : decode cX19_make 44 = .ok (.dup, 1) := by decide +kernel
theorem dX19_make_45 : decode cX19_make 45 = .ok (.getfield 266, 3) := by decide +kernel
theorem dX19_make_48 : decode cX19_make 48 = .ok (.iconst 1, 1) := by decide +kernel
theorem dX19_make_49 : decode cX19_make 49 = .ok (.iadd, 1) := by decide +kernel
theorem dX19_make_50 : decode cX19_make 50 = .ok (.putfield 266, 3) := by decide +kernel
theorem dX19_make_53 : decode cX19_make 53 = .ok (.aload_n 0, 1) := by decide +kernel
theorem dX19_make_54 : decode cX19_make 54 = .ok (.iload 6, 2) := by decide +kernel
theorem dX19_make_56 : decode cX19_make 56 = .ok (.iconst 4, 1) := by decide +kernel
theorem dX19_make_57 : decode cX19_make 57 = .ok (.iload_n 2, 1) := by decide +kernel
theorem dX19_make_58 : decode cX19_make 58 = .ok (.ifCond .eq 8, 3) := by decide +kernel
theorem dX19_make_61 : decode cX19_make 61 = .ok (.iload_n 2, 1) := by decide +kernel
theorem dX19_make_62 : decode cX19_make 62 = .ok (.iconst 1, 1) := by decide +kernel
theorem dX19_make_63 : decode cX19_make 63 = .ok (.if_icmp .ne 8, 3) := by decide +kernel
theorem dX19_make_66 : decode cX19_make 66 = .ok (.bipush 64, 2) := by decide +kernel
theorem dX19_make_68 : decode cX19_make 68 = .ok (.goto 4, 3) := by decide +kernel
theorem dX19_make_71 : decode cX19_make 71 = .ok (.iconst 1, 1) := by decide +kernel
theorem dX19_make_72 : decode cX19_make 72 = .ok (.invokevirtual 14, 3) := by decide +kernel
theorem dX19_make_75 : decode cX19_make 75 = .ok (.aload_n 0, 1) := by decide +kernel
theorem dX19_make_76 : decode cX19_make 76 = .ok (.iload 6, 2) := by decide +kernel
theorem dX19_make_78 : decode cX19_make 78 = .ok (.iconst 5, 1) := by decide +kernel
theorem dX19_make_79 : decode cX19_make 79 = .ok (.iload_n 3, 1) := by decide +kernel
theorem dX19_make_80 : decode cX19_make 80 = .ok (.invokevirtual 14, 3) := by decide +kernel
theorem dX19_make_83 : decode cX19_make 83 = .ok (.iload 6, 2) := by decide +kernel
theorem dX19_make_85 : decode cX19_make 85 = .ok (.ireturn, 1) := by decide +kernel
theorem dX19_isOf_0 : decode cX19_isOf 0 = .ok (.iload_n 0, 1) := by decide +kernel
theorem dX19_isOf_1 : decode cX19_isOf 1 = .ok (.bipush 24, 2) := by decide +kernel
theorem dX19_isOf_3 : decode cX19_isOf 3 = .ok (.iushr, 1) := by decide +kernel
theorem dX19_isOf_4 : decode cX19_isOf 4 = .ok (.bipush 10, 2) := by decide +kernel
theorem dX19_isOf_6 : decode cX19_isOf 6 = .ok (.if_icmp .ne 19, 3) := by decide +kernel
theorem dX19_isOf_9 : decode cX19_isOf 9 = .ok (.iload_n 0, 1) := by decide +kernel
theorem dX19_isOf_10 : decode cX19_isOf 10 = .ok (.bipush 16, 2) := by decide +kernel
theorem dX19_isOf_12 : decode cX19_isOf 12 = .ok (.ishr, 1) := by decide +kernel
theorem dX19_isOf_13 : decode cX19_isOf 13 = .ok (.sipush 255, 3) := by decide +kernel
theorem dX19_isOf_16 : decode cX19_isOf 16 = .ok (.iand, 1) := by decide +kernel
theorem dX19_isOf_17 : decode cX19_isOf 17 = .ok (.iload_n 1, 1) := by decide +kernel
theorem dX19_isOf_18 : decode cX19_isOf 18 = .ok (.if_icmp .ne 7, 3) := by decide +kernel
theorem dX19_isOf_21 : decode cX19_isOf 21 = .ok (.iconst 1, 1) := by decide +kernel
theorem dX19_isOf_22 : decode cX19_isOf 22 = .ok (.goto 4, 3) := by decide +kernel
theorem dX19_isOf_25 : decode cX19_isOf 25 = .ok (.iconst 0, 1) := by decide +kernel
theorem dX19_isOf_26 : decode cX19_isOf 26 = .ok (.ireturn, 1) := by decide +kernel
theorem dX19_isAddress_0 : decode cX19_isAddress 0 = .ok (.iload_n 1, 1) := by decide +kernel
theorem dX19_isAddress_1 : decode cX19_isAddress 1 = .ok (.ldc_w 269, 3) := by decide +kernel
theorem dX19_isAddress_4 : decode cX19_isAddress 4 = .ok (.iand, 1) := by decide +kernel
theorem dX19_isAddress_5 : decode cX19_isAddress 5 = .ok (.istore_n 2, 1) := by decide +kernel
theorem dX19_isAddress_6 : decode cX19_isAddress 6 = .ok (.iload_n 1, 1) := by decide +kernel
theorem dX19_isAddress_7 : decode cX19_isAddress 7 = .ok (.bipush 24, 2) := by decide +kernel
theorem dX19_isAddress_9 : decode cX19_isAddress 9 = .ok (.iushr, 1) := by decide +kernel
theorem dX19_isAddress_10 : decode cX19_isAddress 10 = .ok (.bipush 10, 2) := by decide +kernel
theorem dX19_isAddress_12 : decode cX19_isAddress 12 = .ok (.if_icmp .ne 33, 3) := by decide +kernel
theorem dX19_isAddress_15 : decode cX19_isAddress 15 = .ok (.iload_n 1, 1) := by decide +kernel
theorem dX19_isAddress_16 : decode cX19_isAddress 16 = .ok (.bipush 16, 2) := by decide +kernel
theorem dX19_isAddress_18 : decode cX19_isAddress 18 = .ok (.ishr, 1) := by decide +kernel
theorem dX19_isAddress_19 : decode cX19_isAddress 19 = .ok (.sipush 255, 3) := by decide +kernel
theorem dX19_isAddress_22 : decode cX19_isAddress 22 = .ok (.iand, 1) := by decide +kernel
theorem dX19_isAddress_23 : decode cX19_isAddress 23 = .ok (.aload_n 0, 1) := by decide +kernel
theorem dX19_isAddress_24 : decode cX19_isAddress 24 = .ok (.getfield 270, 3) := by decide +kernel
theorem dX19_isAddress_27 : decode cX19_isAddress 27 = .ok (.if_icmp .ge 18, 3) := by decide +kernel
theorem dX19_isAddress_30 : decode cX19_isAddress 30 = .ok (.iload_n 2, 1) := by decide +kernel
theorem dX19_isAddress_31 : decode cX19_isAddress 31 = .ok (.iconst 1, 1) := by decide +kernel
theorem dX19_isAddress_32 : decode cX19_isAddress 32 = .ok (.if_icmp .lt 13, 3) := by decide +kernel
theorem dX19_isAddress_35 : decode cX19_isAddress 35 = .ok (.iload_n 2, 1) := by decide +kernel
theorem dX19_isAddress_36 : decode cX19_isAddress 36 = .ok (.bipush 8, 2) := by decide +kernel
theorem dX19_isAddress_38 : decode cX19_isAddress 38 = .ok (.if_icmp .gt 7, 3) := by decide +kernel
theorem dX19_isAddress_41 : decode cX19_isAddress 41 = .ok (.iconst 1, 1) := by decide +kernel
theorem dX19_isAddress_42 : decode cX19_isAddress 42 = .ok (.goto 4, 3) := by decide +kernel
theorem dX19_isAddress_45 : decode cX19_isAddress 45 = .ok (.iconst 0, 1) := by decide +kernel
theorem dX19_isAddress_46 : decode cX19_isAddress 46 = .ok (.ireturn, 1) := by decide +kernel
theorem dX19_isOwn_0 : decode cX19_isOwn 0 = .ok (.iconst 0, 1) := by decide +kernel
theorem dX19_isOwn_1 : decode cX19_isOwn 1 = .ok (.istore_n 3, 1) := by decide +kernel
theorem dX19_isOwn_2 : decode cX19_isOwn 2 = .ok (.iload_n 3, 1) := by decide +kernel
theorem dX19_isOwn_3 : decode cX19_isOwn 3 = .ok (.aload_n 1, 1) := by decide +kernel
theorem dX19_isOwn_4 : decode cX19_isOwn 4 = .ok (.getfield 273, 3) := by decide +kernel
theorem dX19_isOwn_7 : decode cX19_isOwn 7 = .ok (.if_icmp .ge 24, 3) := by decide +kernel
theorem dX19_isOwn_10 : decode cX19_isOwn 10 = .ok (.aload_n 1, 1) := by decide +kernel
theorem dX19_isOwn_11 : decode cX19_isOwn 11 = .ok (.getfield 276, 3) := by decide +kernel
theorem dX19_isOwn_14 : decode cX19_isOwn 14 = .ok (.iload_n 3, 1) := by decide +kernel
theorem dX19_isOwn_15 : decode cX19_isOwn 15 = .ok (.aaload, 1) := by decide +kernel
theorem dX19_isOwn_16 : decode cX19_isOwn 16 = .ok (.invokevirtual 280, 3) := by decide +kernel
theorem dX19_isOwn_19 : decode cX19_isOwn 19 = .ok (.iload_n 2, 1) := by decide +kernel
theorem dX19_isOwn_20 : decode cX19_isOwn 20 = .ok (.if_icmp .ne 5, 3) := by decide +kernel
theorem dX19_isOwn_23 : decode cX19_isOwn 23 = .ok (.iconst 1, 1) := by decide +kernel
theorem dX19_isOwn_24 : decode cX19_isOwn 24 = .ok (.ireturn, 1) := by decide +kernel
theorem dX19_isOwn_25 : decode cX19_isOwn 25 = .ok (.iinc 3 1, 3) := by decide +kernel
theorem dX19_isOwn_28 : decode cX19_isOwn 28 = .ok (.goto (-26), 3) := by decide +kernel
theorem dX19_isOwn_31 : decode cX19_isOwn 31 = .ok (.iconst 0, 1) := by decide +kernel
theorem dX19_isOwn_32 : decode cX19_isOwn 32 = .ok (.ireturn, 1) := by decide +kernel
theorem dX19_hostSends_0 : decode cX19_hostSends 0 = .ok (.aload_n 1, 1) := by decide +kernel
theorem dX19_hostSends_1 : decode cX19_hostSends 1 = .ok (.getfield 273, 3) := by decide +kernel
theorem dX19_hostSends_4 : decode cX19_hostSends 4 = .ok (.ifCond .ne 4, 3) := by decide +kernel
theorem dX19_hostSends_7 : decode cX19_hostSends 7 = .ok (.return_, 1) := by decide +kernel
theorem dX19_hostSends_8 : decode cX19_hostSends 8 = .ok (.aload_n 1, 1) := by decide +kernel
theorem dX19_hostSends_9 : decode cX19_hostSends 9 = .ok (.getfield 276, 3) := by decide +kernel
theorem dX19_hostSends_12 : decode cX19_hostSends 12 = .ok (.iconst 0, 1) := by decide +kernel
theorem dX19_hostSends_13 : decode cX19_hostSends 13 = .ok (.aaload, 1) := by decide +kernel
theorem dX19_hostSends_14 : decode cX19_hostSends 14 = .ok (.astore_n 3, 1) := by decide +kernel
theorem dX19_hostSends_15 : decode cX19_hostSends 15 = .ok (.aload_n 0, 1) := by decide +kernel
theorem dX19_hostSends_16 : decode cX19_hostSends 16 = .ok (.iload_n 2, 1) := by decide +kernel
theorem dX19_hostSends_17 : decode cX19_hostSends 17 = .ok (.bipush 9, 2) := by decide +kernel
theorem dX19_hostSends_19 : decode cX19_hostSends 19 = .ok (.iconst 0, 1) := by decide +kernel
theorem dX19_hostSends_20 : decode cX19_hostSends 20 = .ok (.invokevirtual 14, 3) := by decide +kernel
theorem dX19_hostSends_23 : decode cX19_hostSends 23 = .ok (.aload_n 0, 1) := by decide +kernel
theorem dX19_hostSends_24 : decode cX19_hostSends 24 = .ok (.iload_n 2, 1) := by decide +kernel
theorem dX19_hostSends_25 : decode cX19_hostSends 25 = .ok (.iconst 1, 1) := by decide +kernel
theorem dX19_hostSends_26 : decode cX19_hostSends 26 = .ok (.invokevirtual 18, 3) := by decide +kernel
theorem dX19_hostSends_29 : decode cX19_hostSends 29 = .ok (.istore 4, 2) := by decide +kernel
theorem dX19_hostSends_31 : decode cX19_hostSends 31 = .ok (.iload 4, 2) := by decide +kernel
theorem dX19_hostSends_33 : decode cX19_hostSends 33 = .ok (.aload_n 3, 1) := by decide +kernel
theorem dX19_hostSends_34 : decode cX19_hostSends 34 = .ok (.getfield 149, 3) := by decide +kernel
theorem dX19_hostSends_37 : decode cX19_hostSends 37 = .ok (.getfield 181, 3) := by decide +kernel
theorem dX19_hostSends_40 : decode cX19_hostSends 40 = .ok (.invokestatic 283, 3) := by decide +kernel
theorem dX19_hostSends_43 : decode cX19_hostSends 43 = .ok (.ifCond .eq 36, 3) := by decide +kernel
theorem dX19_hostSends_46 : decode cX19_hostSends 46 = .ok (.aload_n 0, 1) := by decide +kernel
theorem dX19_hostSends_47 : decode cX19_hostSends 47 = .ok (.iload 4, 2) := by decide +kernel
theorem dX19_hostSends_49 : decode cX19_hostSends 49 = .ok (.invokevirtual 286, 3) := by decide +kernel
theorem dX19_hostSends_52 : decode cX19_hostSends 52 = .ok (.ifCond .eq 20, 3) := by decide +kernel
theorem dX19_hostSends_55 : decode cX19_hostSends 55 = .ok (.aload_n 0, 1) := by decide +kernel
theorem dX19_hostSends_56 : decode cX19_hostSends 56 = .ok (.aload_n 3, 1) := by decide +kernel
theorem dX19_hostSends_57 : decode cX19_hostSends 57 = .ok (.iload 4, 2) := by decide +kernel
theorem dX19_hostSends_59 : decode cX19_hostSends 59 = .ok (.ldc_w 269, 3) := by decide +kernel
theorem dX19_hostSends_62 : decode cX19_hostSends 62 = .ok (.iand, 1) := by decide +kernel
theorem dX19_hostSends_63 : decode cX19_hostSends 63 = .ok (.iconst 1, 1) := by decide +kernel
theorem dX19_hostSends_64 : decode cX19_hostSends 64 = .ok (.isub, 1) := by decide +kernel
theorem dX19_hostSends_65 : decode cX19_hostSends 65 = .ok (.iload_n 2, 1) := by decide +kernel
theorem dX19_hostSends_66 : decode cX19_hostSends 66 = .ok (.invokevirtual 289, 3) := by decide +kernel
theorem dX19_hostSends_69 : decode cX19_hostSends 69 = .ok (.goto 9, 3) := by decide +kernel
theorem dX19_hostSends_72 : decode cX19_hostSends 72 = .ok (.aload_n 0, 1) := by decide +kernel
theorem dX19_hostSends_73 : decode cX19_hostSends 73 = .ok (.aload_n 1, 1) := by decide +kernel
theorem dX19_hostSends_74 : decode cX19_hostSends 74 = .ok (.iload_n 2, 1) := by decide +kernel
theorem dX19_hostSends_75 : decode cX19_hostSends 75 = .ok (.invokevirtual 258, 3) := by decide +kernel
theorem dX19_hostSends_78 : decode cX19_hostSends 78 = .ok (.return_, 1) := by decide +kernel
theorem dX19_hostSends_79 : decode cX19_hostSends 79 = .ok (.iconst 0, 1) := by decide +kernel
theorem dX19_hostSends_80 : decode cX19_hostSends 80 = .ok (.istore 5, 2) := by decide +kernel
theorem dX19_hostSends_82 : decode cX19_hostSends 82 = .ok (.iload 5, 2) := by decide +kernel
theorem dX19_hostSends_84 : decode cX19_hostSends 84 = .ok (.aload_n 3, 1) := by decide +kernel
theorem dX19_hostSends_85 : decode cX19_hostSends 85 = .ok (.getfield 149, 3) := by decide +kernel
theorem dX19_hostSends_88 : decode cX19_hostSends 88 = .ok (.getfield 292, 3) := by decide +kernel
theorem dX19_hostSends_91 : decode cX19_hostSends 91 = .ok (.if_icmp .ge 37, 3) := by decide +kernel
theorem dX19_hostSends_94 : decode cX19_hostSends 94 = .ok (.aload_n 3, 1) := by decide +kernel
theorem dX19_hostSends_95 : decode cX19_hostSends 95 = .ok (.getfield 149, 3) := by decide +kernel
theorem dX19_hostSends_98 : decode cX19_hostSends 98 = .ok (.getfield 295, 3) := by decide +kernel
theorem dX19_hostSends_101 : decode cX19_hostSends 101 = .ok (.iload 5, 2) := by decide +kernel
theorem dX19_hostSends_103 : decode cX19_hostSends 103 = .ok (.aaload, 1) := by decide +kernel
theorem dX19_hostSends_104 : decode cX19_hostSends 104 = .ok (.getfield 197, 3) := by decide +kernel
theorem dX19_hostSends_107 : decode cX19_hostSends 107 = .ok (.getfield 298, 3) := by decide +kernel
theorem dX19_hostSends_110 : decode cX19_hostSends 110 = .ok (.ifCond .eq 12, 3) := by decide +kernel
theorem dX19_hostSends_113 : decode cX19_hostSends 113 = .ok (.aload_n 0, 1) := by decide +kernel
theorem dX19_hostSends_114 : decode cX19_hostSends 114 = .ok (.aload_n 3, 1) := by decide +kernel
theorem dX19_hostSends_115 : decode cX19_hostSends 115 = .ok (.iload 5, 2) := by decide +kernel
theorem dX19_hostSends_117 : decode cX19_hostSends 117 = .ok (.iload_n 2, 1) := by decide +kernel
theorem dX19_hostSends_118 : decode cX19_hostSends 118 = .ok (.invokevirtual 289, 3) := by decide +kernel
theorem dX19_hostSends_121 : decode cX19_hostSends 121 = .ok (.return_, 1) := by decide +kernel
theorem dX19_hostSends_122 : decode cX19_hostSends 122 = .ok (.iinc 5 1, 3) := by decide +kernel
theorem dX19_hostSends_125 : decode cX19_hostSends 125 = .ok (.goto (-43), 3) := by decide +kernel
theorem dX19_hostSends_128 : decode cX19_hostSends 128 = .ok (.aload_n 0, 1) := by decide +kernel
theorem dX19_hostSends_129 : decode cX19_hostSends 129 = .ok (.aload_n 1, 1) := by decide +kernel
theorem dX19_hostSends_130 : decode cX19_hostSends 130 = .ok (.iload_n 2, 1) := by decide +kernel
theorem dX19_hostSends_131 : decode cX19_hostSends 131 = .ok (.invokevirtual 258, 3) := by decide +kernel
theorem dX19_hostSends_134 : decode cX19_hostSends 134 = .ok (.return_, 1) := by decide +kernel
theorem dX19_routerSends_0 : decode cX19_routerSends 0 = .ok (.aload_n 0, 1) := by decide +kernel
theorem dX19_routerSends_1 : decode cX19_routerSends 1 = .ok (.iload_n 2, 1) := by decide +kernel
theorem dX19_routerSends_2 : decode cX19_routerSends 2 = .ok (.iconst 1, 1) := by decide +kernel
theorem dX19_routerSends_3 : decode cX19_routerSends 3 = .ok (.invokevirtual 18, 3) := by decide +kernel
theorem dX19_routerSends_6 : decode cX19_routerSends 6 = .ok (.istore 4, 2) := by decide +kernel
theorem dX19_routerSends_8 : decode cX19_routerSends 8 = .ok (.iload 4, 2) := by decide +kernel
theorem dX19_routerSends_10 : decode cX19_routerSends 10 = .ok (.bipush 16, 2) := by decide +kernel
theorem dX19_routerSends_12 : decode cX19_routerSends 12 = .ok (.ishr, 1) := by decide +kernel
theorem dX19_routerSends_13 : decode cX19_routerSends 13 = .ok (.sipush 255, 3) := by decide +kernel
theorem dX19_routerSends_16 : decode cX19_routerSends 16 = .ok (.iand, 1) := by decide +kernel
theorem dX19_routerSends_17 : decode cX19_routerSends 17 = .ok (.istore 5, 2) := by decide +kernel
theorem dX19_routerSends_19 : decode cX19_routerSends 19 = .ok (.aload_n 0, 1) := by decide +kernel
theorem dX19_routerSends_20 : decode cX19_routerSends 20 = .ok (.iload 4, 2) := by decide +kernel
theorem dX19_routerSends_22 : decode cX19_routerSends 22 = .ok (.invokevirtual 286, 3) := by decide +kernel
theorem dX19_routerSends_25 : decode cX19_routerSends 25 = .ok (.ifCond .eq 14, 3) := by decide +kernel
theorem dX19_routerSends_28 : decode cX19_routerSends 28 = .ok (.aload_n 1, 1) := by decide +kernel
theorem dX19_routerSends_29 : decode cX19_routerSends 29 = .ok (.getfield 301, 3) := by decide +kernel
theorem dX19_routerSends_32 : decode cX19_routerSends 32 = .ok (.iload 5, 2) := by decide +kernel
theorem dX19_routerSends_34 : decode cX19_routerSends 34 = .ok (.iaload, 1) := by decide +kernel
theorem dX19_routerSends_35 : decode cX19_routerSends 35 = .ok (.iconst (-1), 1) := by decide +kernel
theorem dX19_routerSends_36 : decode cX19_routerSends 36 = .ok (.if_icmp .ne 10, 3) := by decide +kernel
theorem dX19_routerSends_39 : decode cX19_routerSends 39 = .ok (.aload_n 0, 1) := by decide +kernel
theorem dX19_routerSends_40 : decode cX19_routerSends 40 = .ok (.aload_n 1, 1) := by decide +kernel
theorem dX19_routerSends_41 : decode cX19_routerSends 41 = .ok (.iload_n 2, 1) := by decide +kernel
theorem dX19_routerSends_42 : decode cX19_routerSends 42 = .ok (.invokevirtual 258, 3) := by decide +kernel
theorem dX19_routerSends_45 : decode cX19_routerSends 45 = .ok (.return_, 1) := by decide +kernel
theorem dX19_routerSends_46 : decode cX19_routerSends 46 = .ok (.aconst_null, 1) := by decide +kernel
theorem dX19_routerSends_47 : decode cX19_routerSends 47 = .ok (.astore 6, 2) := by decide +kernel
theorem dX19_routerSends_49 : decode cX19_routerSends 49 = .ok (.iconst 0, 1) := by decide +kernel
theorem dX19_routerSends_50 : decode cX19_routerSends 50 = .ok (.istore 7, 2) := by decide +kernel
theorem dX19_routerSends_52 : decode cX19_routerSends 52 = .ok (.iload 7, 2) := by decide +kernel
theorem dX19_routerSends_54 : decode cX19_routerSends 54 = .ok (.aload_n 1, 1) := by decide +kernel
theorem dX19_routerSends_55 : decode cX19_routerSends 55 = .ok (.getfield 273, 3) := by decide +kernel
theorem dX19_routerSends_58 : decode cX19_routerSends 58 = .ok (.if_icmp .ge 46, 3) := by decide +kernel
theorem dX19_routerSends_61 : decode cX19_routerSends 61 = .ok (.aload_n 1, 1) := by decide +kernel
theorem dX19_routerSends_62 : decode cX19_routerSends 62 = .ok (.getfield 276, 3) := by decide +kernel
theorem dX19_routerSends_65 : decode cX19_routerSends 65 = .ok (.iload 7, 2) := by decide +kernel
theorem dX19_routerSends_67 : decode cX19_routerSends 67 = .ok (.aaload, 1) := by decide +kernel
theorem dX19_routerSends_68 : decode cX19_routerSends 68 = .ok (.getfield 149, 3) := by decide +kernel
theorem dX19_routerSends_71 : decode cX19_routerSends 71 = .ok (.getfield 181, 3) := by decide +kernel
theorem dX19_routerSends_74 : decode cX19_routerSends 74 = .ok (.aload_n 1, 1) := by decide +kernel
theorem dX19_routerSends_75 : decode cX19_routerSends 75 = .ok (.getfield 304, 3) := by decide +kernel
theorem dX19_routerSends_78 : decode cX19_routerSends 78 = .ok (.iload 5, 2) := by decide +kernel
theorem dX19_routerSends_80 : decode cX19_routerSends 80 = .ok (.iaload, 1) := by decide +kernel
theorem dX19_routerSends_81 : decode cX19_routerSends 81 = .ok (.if_icmp .ne 13, 3) := by decide +kernel
theorem dX19_routerSends_84 : decode cX19_routerSends 84 = .ok (.aload_n 1, 1) := by decide +kernel
theorem dX19_routerSends_85 : decode cX19_routerSends 85 = .ok (.getfield 276, 3) := by decide +kernel
theorem dX19_routerSends_88 : decode cX19_routerSends 88 = .ok (.iload 7, 2) := by decide +kernel
theorem dX19_routerSends_90 : decode cX19_routerSends 90 = .ok (.aaload, 1) := by decide +kernel
theorem dX19_routerSends_91 : decode cX19_routerSends 91 = .ok (.goto 5, 3) := by decide +kernel
theorem dX19_routerSends_94 : decode cX19_routerSends 94 = .ok (.aload 6, 2) := by decide +kernel
theorem dX19_routerSends_96 : decode cX19_routerSends 96 = .ok (.astore 6, 2) := by decide +kernel
theorem dX19_routerSends_98 : decode cX19_routerSends 98 = .ok (.iinc 7 1, 3) := by decide +kernel
theorem dX19_routerSends_101 : decode cX19_routerSends 101 = .ok (.goto (-49), 3) := by decide +kernel
theorem dX19_routerSends_104 : decode cX19_routerSends 104 = .ok (.iload 4, 2) := by decide +kernel
theorem dX19_routerSends_106 : decode cX19_routerSends 106 = .ok (.ldc_w 269, 3) := by decide +kernel
theorem dX19_routerSends_109 : decode cX19_routerSends 109 = .ok (.iand, 1) := by decide +kernel
theorem dX19_routerSends_110 : decode cX19_routerSends 110 = .ok (.iconst 1, 1) := by decide +kernel
theorem dX19_routerSends_111 : decode cX19_routerSends 111 = .ok (.isub, 1) := by decide +kernel
theorem dX19_routerSends_112 : decode cX19_routerSends 112 = .ok (.istore 7, 2) := by decide +kernel
theorem dX19_routerSends_114 : decode cX19_routerSends 114 = .ok (.aload_n 1, 1) := by decide +kernel
theorem dX19_routerSends_115 : decode cX19_routerSends 115 = .ok (.getfield 307, 3) := by decide +kernel
theorem dX19_routerSends_118 : decode cX19_routerSends 118 = .ok (.iload 5, 2) := by decide +kernel
theorem dX19_routerSends_120 : decode cX19_routerSends 120 = .ok (.iaload, 1) := by decide +kernel
theorem dX19_routerSends_121 : decode cX19_routerSends 121 = .ok (.aload_n 1, 1) := by decide +kernel
theorem dX19_routerSends_122 : decode cX19_routerSends 122 = .ok (.getfield 310, 3) := by decide +kernel
theorem dX19_routerSends_125 : decode cX19_routerSends 125 = .ok (.if_icmp .eq 25, 3) := by decide +kernel
theorem dX19_routerSends_128 : decode cX19_routerSends 128 = .ok (.aload_n 0, 1) := by decide +kernel
theorem dX19_routerSends_129 : decode cX19_routerSends 129 = .ok (.getfield 114, 3) := by decide +kernel
theorem dX19_routerSends_132 : decode cX19_routerSends 132 = .ok (.aload_n 1, 1) := by decide +kernel
theorem dX19_routerSends_133 : decode cX19_routerSends 133 = .ok (.getfield 307, 3) := by decide +kernel
theorem dX19_routerSends_136 : decode cX19_routerSends 136 = .ok (.iload 5, 2) := by decide +kernel
theorem dX19_routerSends_138 : decode cX19_routerSends 138 = .ok (.iaload, 1) := by decide +kernel
theorem dX19_routerSends_139 : decode cX19_routerSends 139 = .ok (.aaload, 1) := by decide +kernel
theorem dX19_routerSends_140 : decode cX19_routerSends 140 = .ok (.aload 6, 2) := by decide +kernel
theorem dX19_routerSends_142 : decode cX19_routerSends 142 = .ok (.getfield 149, 3) := by decide +kernel
theorem dX19_routerSends_145 : decode cX19_routerSends 145 = .ok (.invokestatic 311, 3) := by decide +kernel
theorem dX19_routerSends_148 : decode cX19_routerSends 148 = .ok (.istore 7, 2) := by decide +kernel
theorem dX19_routerSends_150 : decode cX19_routerSends 150 = .ok (.aload_n 1, 1) := by decide +kernel
theorem dX19_routerSends_151 : decode cX19_routerSends 151 = .ok (.dup, 1) := by decide +kernel
theorem dX19_routerSends_152 : decode cX19_routerSends 152 = .ok (.getfield 315, 3) := by decide +kernel
theorem dX19_routerSends_155 : decode cX19_routerSends 155 = .ok (.iload_n 3, 1) := by decide +kernel
theorem dX19_routerSends_156 : decode cX19_routerSends 156 = .ok (.ifCond .eq 7, 3) := by decide +kernel
theorem dX19_routerSends_159 : decode cX19_routerSends 159 = .ok (.iconst 1, 1) := by decide +kernel
theorem dX19_routerSends_160 : decode cX19_routerSends 160 = .ok (.goto 4, 3) := by decide +kernel
theorem dX19_routerSends_163 : decode cX19_routerSends 163 = .ok (.iconst 0, 1) := by decide +kernel
theorem dX19_routerSends_164 : decode cX19_routerSends 164 = .ok (.iadd, 1) := by decide +kernel
theorem dX19_routerSends_165 : decode cX19_routerSends 165 = .ok (.putfield 315, 3) := by decide +kernel
theorem dX19_routerSends_168 : decode cX19_routerSends 168 = .ok (.aload_n 0, 1) := by decide +kernel
theorem dX19_routerSends_169 : decode cX19_routerSends 169 = .ok (.aload 6, 2) := by decide +kernel
theorem dX19_routerSends_171 : decode cX19_routerSends 171 = .ok (.iload 7, 2) := by decide +kernel
theorem dX19_routerSends_173 : decode cX19_routerSends 173 = .ok (.iload_n 2, 1) := by decide +kernel
theorem dX19_routerSends_174 : decode cX19_routerSends 174 = .ok (.invokevirtual 289, 3) := by decide +kernel
theorem dX19_routerSends_177 : decode cX19_routerSends 177 = .ok (.return_, 1) := by decide +kernel
theorem dX19_stationOf_0 : decode cX19_stationOf 0 = .ok (.iconst 0, 1) := by decide +kernel
theorem dX19_stationOf_1 : decode cX19_stationOf 1 = .ok (.istore_n 2, 1) := by decide +kernel
theorem dX19_stationOf_2 : decode cX19_stationOf 2 = .ok (.iload_n 2, 1) := by decide +kernel
theorem dX19_stationOf_3 : decode cX19_stationOf 3 = .ok (.aload_n 0, 1) := by decide +kernel
theorem dX19_stationOf_4 : decode cX19_stationOf 4 = .ok (.getfield 273, 3) := by decide +kernel
theorem dX19_stationOf_7 : decode cX19_stationOf 7 = .ok (.if_icmp .ge 32, 3) := by decide +kernel
theorem dX19_stationOf_10 : decode cX19_stationOf 10 = .ok (.aload_n 0, 1) := by decide +kernel
theorem dX19_stationOf_11 : decode cX19_stationOf 11 = .ok (.getfield 276, 3) := by decide +kernel
theorem dX19_stationOf_14 : decode cX19_stationOf 14 = .ok (.iload_n 2, 1) := by decide +kernel
theorem dX19_stationOf_15 : decode cX19_stationOf 15 = .ok (.aaload, 1) := by decide +kernel
theorem dX19_stationOf_16 : decode cX19_stationOf 16 = .ok (.getfield 149, 3) := by decide +kernel
theorem dX19_stationOf_19 : decode cX19_stationOf 19 = .ok (.aload_n 1, 1) := by decide +kernel
theorem dX19_stationOf_20 : decode cX19_stationOf 20 = .ok (.if_acmp .ne 13, 3) := by decide +kernel
theorem dX19_stationOf_23 : decode cX19_stationOf 23 = .ok (.aload_n 0, 1) := by decide +kernel
theorem dX19_stationOf_24 : decode cX19_stationOf 24 = .ok (.getfield 276, 3) := by decide +kernel
theorem dX19_stationOf_27 : decode cX19_stationOf 27 = .ok (.iload_n 2, 1) := by decide +kernel
theorem dX19_stationOf_28 : decode cX19_stationOf 28 = .ok (.aaload, 1) := by decide +kernel
theorem dX19_stationOf_29 : decode cX19_stationOf 29 = .ok (.getfield 184, 3) := by decide +kernel
theorem dX19_stationOf_32 : decode cX19_stationOf 32 = .ok (.ireturn, 1) := by decide +kernel
theorem dX19_stationOf_33 : decode cX19_stationOf 33 = .ok (.iinc 2 1, 3) := by decide +kernel
theorem dX19_stationOf_36 : decode cX19_stationOf 36 = .ok (.goto (-34), 3) := by decide +kernel
theorem dX19_stationOf_39 : decode cX19_stationOf 39 = .ok (.iconst (-1), 1) := by decide +kernel
theorem dX19_stationOf_40 : decode cX19_stationOf 40 = .ok (.ireturn, 1) := by decide +kernel
theorem dX19_comeBack_0 : decode cX19_comeBack 0 = .ok (.aload_n 0, 1) := by decide +kernel
theorem dX19_comeBack_1 : decode cX19_comeBack 1 = .ok (.iload_n 2, 1) := by decide +kernel
theorem dX19_comeBack_2 : decode cX19_comeBack 2 = .ok (.iconst 2, 1) := by decide +kernel
theorem dX19_comeBack_3 : decode cX19_comeBack 3 = .ok (.invokevirtual 18, 3) := by decide +kernel
theorem dX19_comeBack_6 : decode cX19_comeBack 6 = .ok (.iconst 1, 1) := by decide +kernel
theorem dX19_comeBack_7 : decode cX19_comeBack 7 = .ok (.if_icmp .ne 13, 3) := by decide +kernel
theorem dX19_comeBack_10 : decode cX19_comeBack 10 = .ok (.aload_n 0, 1) := by decide +kernel
theorem dX19_comeBack_11 : decode cX19_comeBack 11 = .ok (.iload_n 2, 1) := by decide +kernel
theorem dX19_comeBack_12 : decode cX19_comeBack 12 = .ok (.bipush 6, 2) := by decide +kernel
theorem dX19_comeBack_14 : decode cX19_comeBack 14 = .ok (.invokevirtual 18, 3) := by decide +kernel
theorem dX19_comeBack_17 : decode cX19_comeBack 17 = .ok (.ifCond .eq 4, 3) := by decide +kernel
theorem dX19_comeBack_20 : decode cX19_comeBack 20 = .ok (.return_, 1) := by decide +kernel
theorem dX19_comeBack_21 : decode cX19_comeBack 21 = .ok (.aload_n 0, 1) := by decide +kernel
theorem dX19_comeBack_22 : decode cX19_comeBack 22 = .ok (.iload_n 2, 1) := by decide +kernel
theorem dX19_comeBack_23 : decode cX19_comeBack 23 = .ok (.iconst 0, 1) := by decide +kernel
theorem dX19_comeBack_24 : decode cX19_comeBack 24 = .ok (.invokevirtual 18, 3) := by decide +kernel
theorem dX19_comeBack_27 : decode cX19_comeBack 27 = .ok (.istore_n 3, 1) := by decide +kernel
theorem dX19_comeBack_28 : decode cX19_comeBack 28 = .ok (.aload_n 0, 1) := by decide +kernel
theorem dX19_comeBack_29 : decode cX19_comeBack 29 = .ok (.iload_n 2, 1) := by decide +kernel
theorem dX19_comeBack_30 : decode cX19_comeBack 30 = .ok (.iconst 1, 1) := by decide +kernel
theorem dX19_comeBack_31 : decode cX19_comeBack 31 = .ok (.invokevirtual 18, 3) := by decide +kernel
theorem dX19_comeBack_34 : decode cX19_comeBack 34 = .ok (.istore 4, 2) := by decide +kernel
theorem dX19_comeBack_36 : decode cX19_comeBack 36 = .ok (.aload_n 0, 1) := by decide +kernel
theorem dX19_comeBack_37 : decode cX19_comeBack 37 = .ok (.aload_n 0, 1) := by decide +kernel
theorem dX19_comeBack_38 : decode cX19_comeBack 38 = .ok (.iload_n 2, 1) := by decide +kernel
theorem dX19_comeBack_39 : decode cX19_comeBack 39 = .ok (.bipush 10, 2) := by decide +kernel
theorem dX19_comeBack_41 : decode cX19_comeBack 41 = .ok (.invokevirtual 18, 3) := by decide +kernel
theorem dX19_comeBack_44 : decode cX19_comeBack 44 = .ok (.iconst 0, 1) := by decide +kernel
theorem dX19_comeBack_45 : decode cX19_comeBack 45 = .ok (.invokevirtual 47, 3) := by decide +kernel
theorem dX19_comeBack_48 : decode cX19_comeBack 48 = .ok (.istore 5, 2) := by decide +kernel
theorem dX19_comeBack_50 : decode cX19_comeBack 50 = .ok (.aload_n 0, 1) := by decide +kernel
theorem dX19_comeBack_51 : decode cX19_comeBack 51 = .ok (.aload_n 0, 1) := by decide +kernel
theorem dX19_comeBack_52 : decode cX19_comeBack 52 = .ok (.iload_n 2, 1) := by decide +kernel
theorem dX19_comeBack_53 : decode cX19_comeBack 53 = .ok (.bipush 10, 2) := by decide +kernel
theorem dX19_comeBack_55 : decode cX19_comeBack 55 = .ok (.invokevirtual 18, 3) := by decide +kernel
theorem dX19_comeBack_58 : decode cX19_comeBack 58 = .ok (.iconst 1, 1) := by decide +kernel
theorem dX19_comeBack_59 : decode cX19_comeBack 59 = .ok (.invokevirtual 47, 3) := by decide +kernel
theorem dX19_comeBack_62 : decode cX19_comeBack 62 = .ok (.istore 6, 2) := by decide +kernel
theorem dX19_comeBack_64 : decode cX19_comeBack 64 = .ok (.aload_n 0, 1) := by decide +kernel
theorem dX19_comeBack_65 : decode cX19_comeBack 65 = .ok (.aload_n 1, 1) := by decide +kernel
theorem dX19_comeBack_66 : decode cX19_comeBack 66 = .ok (.iload_n 3, 1) := by decide +kernel
theorem dX19_comeBack_67 : decode cX19_comeBack 67 = .ok (.invokevirtual 318, 3) := by decide +kernel
theorem dX19_comeBack_70 : decode cX19_comeBack 70 = .ok (.ifCond .eq 26, 3) := by decide +kernel
theorem dX19_comeBack_73 : decode cX19_comeBack 73 = .ok (.aload_n 1, 1) := by decide +kernel
theorem dX19_comeBack_74 : decode cX19_comeBack 74 = .ok (.dup, 1) := by decide +kernel
theorem dX19_comeBack_75 : decode cX19_comeBack 75 = .ok (.getfield 322, 3) := by decide +kernel
theorem dX19_comeBack_78 : decode cX19_comeBack 78 = .ok (.iconst 1, 1) := by decide +kernel
theorem dX19_comeBack_79 : decode cX19_comeBack 79 = .ok (.iadd, 1) := by decide +kernel
theorem dX19_comeBack_80 : decode cX19_comeBack 80 = .ok (.putfield 322, 3) := by decide +kernel
theorem dX19_comeBack_83 : decode cX19_comeBack 83 = .ok (.aload_n 0, 1) := by decide +kernel
theorem dX19_comeBack_84 : decode cX19_comeBack 84 = .ok (.aload_n 1, 1) := by decide +kernel
theorem dX19_comeBack_85 : decode cX19_comeBack 85 = .ok (.iload_n 3, 1) := by decide +kernel
theorem dX19_comeBack_86 : decode cX19_comeBack 86 = .ok (.iload 4, 2) := by decide +kernel
theorem dX19_comeBack_88 : decode cX19_comeBack 88 = .ok (.iload 5, 2) := by decide +kernel
theorem dX19_comeBack_90 : decode cX19_comeBack 90 = .ok (.iload 6, 2) := by decide +kernel
theorem dX19_comeBack_92 : decode cX19_comeBack 92 = .ok (.invokevirtual 325, 3) := by decide +kernel
theorem dX19_comeBack_95 : decode cX19_comeBack 95 = .ok (.return_, 1) := by decide +kernel
theorem dX19_comeBack_96 : decode cX19_comeBack 96 = .ok (.aload_n 0, 1) := by decide +kernel
theorem dX19_comeBack_97 : decode cX19_comeBack 97 = .ok (.aload_n 1, 1) := by decide +kernel
theorem dX19_comeBack_98 : decode cX19_comeBack 98 = .ok (.iconst 0, 1) := by decide +kernel
theorem dX19_comeBack_99 : decode cX19_comeBack 99 = .ok (.bipush 36, 2) := by decide +kernel
theorem dX19_comeBack_101 : decode cX19_comeBack 101 = .ok (.aload_n 1, 1) := by decide +kernel
theorem dX19_comeBack_102 : decode cX19_comeBack 102 = .ok (.getfield 276, 3) := by decide +kernel
theorem dX19_comeBack_105 : decode cX19_comeBack 105 = .ok (.aload_n 0, 1) := by decide +kernel
theorem dX19_comeBack_106 : decode cX19_comeBack 106 = .ok (.iload_n 2, 1) := by decide +kernel
theorem dX19_comeBack_107 : decode cX19_comeBack 107 = .ok (.bipush 9, 2) := by decide +kernel
theorem dX19_comeBack_109 : decode cX19_comeBack 109 = .ok (.invokevirtual 18, 3) := by decide +kernel
theorem dX19_comeBack_112 : decode cX19_comeBack 112 = .ok (.aaload, 1) := by decide +kernel
theorem dX19_comeBack_113 : decode cX19_comeBack 113 = .ok (.invokevirtual 280, 3) := by decide +kernel
theorem dX19_comeBack_116 : decode cX19_comeBack 116 = .ok (.iload_n 3, 1) := by decide +kernel
theorem dX19_comeBack_117 : decode cX19_comeBack 117 = .ok (.invokevirtual 329, 3) := by decide +kernel
theorem dX19_comeBack_120 : decode cX19_comeBack 120 = .ok (.istore 7, 2) := by decide +kernel
theorem dX19_comeBack_122 : decode cX19_comeBack 122 = .ok (.aload_n 0, 1) := by decide +kernel
theorem dX19_comeBack_123 : decode cX19_comeBack 123 = .ok (.iload 7, 2) := by decide +kernel
theorem dX19_comeBack_125 : decode cX19_comeBack 125 = .ok (.bipush 14, 2) := by decide +kernel
theorem dX19_comeBack_127 : decode cX19_comeBack 127 = .ok (.iload_n 3, 1) := by decide +kernel
theorem dX19_comeBack_128 : decode cX19_comeBack 128 = .ok (.invokevirtual 14, 3) := by decide +kernel
theorem dX19_comeBack_131 : decode cX19_comeBack 131 = .ok (.aload_n 0, 1) := by decide +kernel
theorem dX19_comeBack_132 : decode cX19_comeBack 132 = .ok (.iload 7, 2) := by decide +kernel
theorem dX19_comeBack_134 : decode cX19_comeBack 134 = .ok (.bipush 15, 2) := by decide +kernel
theorem dX19_comeBack_136 : decode cX19_comeBack 136 = .ok (.iload 4, 2) := by decide +kernel
theorem dX19_comeBack_138 : decode cX19_comeBack 138 = .ok (.invokevirtual 14, 3) := by decide +kernel
theorem dX19_comeBack_141 : decode cX19_comeBack 141 = .ok (.aload_n 0, 1) := by decide +kernel
theorem dX19_comeBack_142 : decode cX19_comeBack 142 = .ok (.iload 7, 2) := by decide +kernel
theorem dX19_comeBack_144 : decode cX19_comeBack 144 = .ok (.bipush 16, 2) := by decide +kernel
theorem dX19_comeBack_146 : decode cX19_comeBack 146 = .ok (.iload 5, 2) := by decide +kernel
theorem dX19_comeBack_148 : decode cX19_comeBack 148 = .ok (.invokevirtual 14, 3) := by decide +kernel
theorem dX19_comeBack_151 : decode cX19_comeBack 151 = .ok (.aload_n 0, 1) := by decide +kernel
theorem dX19_comeBack_152 : decode cX19_comeBack 152 = .ok (.iload 7, 2) := by decide +kernel
theorem dX19_comeBack_154 : decode cX19_comeBack 154 = .ok (.bipush 17, 2) := by decide +kernel
theorem dX19_comeBack_156 : decode cX19_comeBack 156 = .ok (.iload 6, 2) := by decide +kernel
theorem dX19_comeBack_158 : decode cX19_comeBack 158 = .ok (.invokevirtual 14, 3) := by decide +kernel
theorem dX19_comeBack_161 : decode cX19_comeBack 161 = .ok (.aload_n 1, 1) := by decide +kernel
theorem dX19_comeBack_162 : decode cX19_comeBack 162 = .ok (.getfield 298, 3) := by decide +kernel
theorem dX19_comeBack_165 : decode cX19_comeBack 165 = .ok (.ifCond .eq 14, 3) := by decide +kernel
theorem dX19_comeBack_168 : decode cX19_comeBack 168 = .ok (.aload_n 0, 1) := by decide +kernel
theorem dX19_comeBack_169 : decode cX19_comeBack 169 = .ok (.aload_n 1, 1) := by decide +kernel
theorem dX19_comeBack_170 : decode cX19_comeBack 170 = .ok (.iload 7, 2) := by decide +kernel
theorem dX19_comeBack_172 : decode cX19_comeBack 172 = .ok (.iconst 0, 1) := by decide +kernel
theorem dX19_comeBack_173 : decode cX19_comeBack 173 = .ok (.invokevirtual 333, 3) := by decide +kernel
theorem dX19_comeBack_176 : decode cX19_comeBack 176 = .ok (.goto 10, 3) := by decide +kernel
theorem dX19_comeBack_179 : decode cX19_comeBack 179 = .ok (.aload_n 0, 1) := by decide +kernel
theorem dX19_comeBack_180 : decode cX19_comeBack 180 = .ok (.aload_n 1, 1) := by decide +kernel
theorem dX19_comeBack_181 : decode cX19_comeBack 181 = .ok (.iload 7, 2) := by decide +kernel
theorem dX19_comeBack_183 : decode cX19_comeBack 183 = .ok (.invokevirtual 337, 3) := by decide +kernel
theorem dX19_comeBack_186 : decode cX19_comeBack 186 = .ok (.aload_n 0, 1) := by decide +kernel
theorem dX19_comeBack_187 : decode cX19_comeBack 187 = .ok (.iload 7, 2) := by decide +kernel
theorem dX19_comeBack_189 : decode cX19_comeBack 189 = .ok (.invokevirtual 204, 3) := by decide +kernel
theorem dX19_comeBack_192 : decode cX19_comeBack 192 = .ok (.return_, 1) := by decide +kernel
theorem dX19_act_0 : decode cX19_act 0 = .ok (.iconst 0, 1) := by decide +kernel
theorem dX19_act_1 : decode cX19_act 1 = .ok (.istore 6, 2) := by decide +kernel
theorem dX19_act_3 : decode cX19_act 3 = .ok (.aload_n 1, 1) := by decide +kernel
theorem dX19_act_4 : decode cX19_act 4 = .ok (.getfield 298, 3) := by decide +kernel
theorem dX19_act_7 : decode cX19_act 7 = .ok (.ifCond .ne 99, 3) := by decide +kernel
theorem dX19_act_10 : decode cX19_act 10 = .ok (.iload 6, 2) := by decide +kernel
theorem dX19_act_12 : decode cX19_act 12 = .ok (.bipush 6, 2) := by decide +kernel
theorem dX19_act_14 : decode cX19_act 14 = .ok (.if_icmp .ge 92, 3) := by decide +kernel
theorem dX19_act_17 : decode cX19_act 17 = .ok (.aload_n 1, 1) := by decide +kernel
theorem dX19_act_18 : decode cX19_act 18 = .ok (.getfield 340, 3) := by decide +kernel
theorem dX19_act_21 : decode cX19_act 21 = .ok (.iload 6, 2) := by decide +kernel
theorem dX19_act_23 : decode cX19_act 23 = .ok (.aaload, 1) := by decide +kernel
theorem dX19_act_24 : decode cX19_act 24 = .ok (.getfield 344, 3) := by decide +kernel
theorem dX19_act_27 : decode cX19_act 27 = .ok (.astore 7, 2) := by decide +kernel
theorem dX19_act_29 : decode cX19_act 29 = .ok (.aload_n 1, 1) := by decide +kernel
theorem dX19_act_30 : decode cX19_act 30 = .ok (.getfield 340, 3) := by decide +kernel
theorem dX19_act_33 : decode cX19_act 33 = .ok (.iload 6, 2) := by decide +kernel
theorem dX19_act_35 : decode cX19_act 35 = .ok (.aaload, 1) := by decide +kernel
theorem dX19_act_36 : decode cX19_act 36 = .ok (.getfield 350, 3) := by decide +kernel
theorem dX19_act_39 : decode cX19_act 39 = .ok (.ifCond .eq 61, 3) := by decide +kernel
theorem dX19_act_42 : decode cX19_act 42 = .ok (.aload 7, 2) := by decide +kernel
theorem dX19_act_44 : decode cX19_act 44 = .ok (.getfield 353, 3) := by decide +kernel
theorem dX19_act_47 : decode cX19_act 47 = .ok (.iconst 2, 1) := by decide +kernel
theorem dX19_act_48 : decode cX19_act 48 = .ok (.if_icmp .ne 52, 3) := by decide +kernel
theorem dX19_act_51 : decode cX19_act 51 = .ok (.aload_n 0, 1) := by decide +kernel
theorem dX19_act_52 : decode cX19_act 52 = .ok (.aload_n 1, 1) := by decide +kernel
theorem dX19_act_53 : decode cX19_act 53 = .ok (.iload_n 2, 1) := by decide +kernel
theorem dX19_act_54 : decode cX19_act 54 = .ok (.invokevirtual 318, 3) := by decide +kernel
theorem dX19_act_57 : decode cX19_act 57 = .ok (.ifCond .eq 43, 3) := by decide +kernel
theorem dX19_act_60 : decode cX19_act 60 = .ok (.aload 7, 2) := by decide +kernel
theorem dX19_act_62 : decode cX19_act 62 = .ok (.getfield 358, 3) := by decide +kernel
theorem dX19_act_65 : decode cX19_act 65 = .ok (.iload 4, 2) := by decide +kernel
theorem dX19_act_67 : decode cX19_act 67 = .ok (.if_icmp .ne 33, 3) := by decide +kernel
theorem dX19_act_70 : decode cX19_act 70 = .ok (.aload 7, 2) := by decide +kernel
theorem dX19_act_72 : decode cX19_act 72 = .ok (.getfield 361, 3) := by decide +kernel
theorem dX19_act_75 : decode cX19_act 75 = .ok (.iload_n 3, 1) := by decide +kernel
theorem dX19_act_76 : decode cX19_act 76 = .ok (.if_icmp .ne 24, 3) := by decide +kernel
theorem dX19_act_79 : decode cX19_act 79 = .ok (.aload 7, 2) := by decide +kernel
theorem dX19_act_81 : decode cX19_act 81 = .ok (.getfield 364, 3) := by decide +kernel
theorem dX19_act_84 : decode cX19_act 84 = .ok (.iload 5, 2) := by decide +kernel
theorem dX19_act_86 : decode cX19_act 86 = .ok (.if_icmp .ne 14, 3) := by decide +kernel
theorem dX19_act_89 : decode cX19_act 89 = .ok (.aload 7, 2) := by decide +kernel
theorem dX19_act_91 : decode cX19_act 91 = .ok (.bipush 11, 2) := by decide +kernel
theorem dX19_act_93 : decode cX19_act 93 = .ok (.aload_n 0, 1) := by decide +kernel
theorem dX19_act_94 : decode cX19_act 94 = .ok (.getfield 143, 3) := by decide +kernel
theorem dX19_act_97 : decode cX19_act 97 = .ok (.invokevirtual 367, 3) := by decide +kernel
theorem dX19_act_100 : decode cX19_act 100 = .ok (.iinc 6 1, 3) := by decide +kernel
theorem dX19_act_103 : decode cX19_act 103 = .ok (.goto (-100), 3) := by decide +kernel
theorem dX19_act_106 : decode cX19_act 106 = .ok (.return_, 1) := by decide +kernel
theorem dX19_arriveAll_0 : decode cX19_arriveAll 0 = .ok (.iconst 0, 1) := by decide +kernel
theorem dX19_arriveAll_1 : decode cX19_arriveAll 1 = .ok (.istore_n 1, 1) := by decide +kernel
theorem dX19_arriveAll_2 : decode cX19_arriveAll 2 = .ok (.iload_n 1, 1) := by decide +kernel
theorem dX19_arriveAll_3 : decode cX19_arriveAll 3 = .ok (.aload_n 0, 1) := by decide +kernel
theorem dX19_arriveAll_4 : decode cX19_arriveAll 4 = .ok (.getfield 171, 3) := by decide +kernel
theorem dX19_arriveAll_7 : decode cX19_arriveAll 7 = .ok (.if_icmp .ge 200, 3) := by decide +kernel
theorem dX19_arriveAll_10 : decode cX19_arriveAll 10 = .ok (.aload_n 0, 1) := by decide +kernel
theorem dX19_arriveAll_11 : decode cX19_arriveAll 11 = .ok (.getfield 124, 3) := by decide +kernel
theorem dX19_arriveAll_14 : decode cX19_arriveAll 14 = .ok (.bipush 7, 2) := by decide +kernel
theorem dX19_arriveAll_16 : decode cX19_arriveAll 16 = .ok (.iload_n 1, 1) := by decide +kernel
theorem dX19_arriveAll_17 : decode cX19_arriveAll 17 = .ok (.imul, 1) := by decide +kernel
theorem dX19_arriveAll_18 : decode cX19_arriveAll 18 = .ok (.bipush 6, 2) := by decide +kernel
theorem dX19_arriveAll_20 : decode cX19_arriveAll 20 = .ok (.iadd, 1) := by decide +kernel
theorem dX19_arriveAll_21 : decode cX19_arriveAll 21 = .ok (.iaload, 1) := by decide +kernel
theorem dX19_arriveAll_22 : decode cX19_arriveAll 22 = .ok (.aload_n 0, 1) := by decide +kernel
theorem dX19_arriveAll_23 : decode cX19_arriveAll 23 = .ok (.getfield 143, 3) := by decide +kernel
theorem dX19_arriveAll_26 : decode cX19_arriveAll 26 = .ok (.if_icmp .eq 9, 3) := by decide +kernel
theorem dX19_arriveAll_29 : decode cX19_arriveAll 29 = .ok (.iinc 1 1, 3) := by decide +kernel
theorem dX19_arriveAll_32 : decode cX19_arriveAll 32 = .ok (.goto (-30), 3) := by decide +kernel
theorem dX19_arriveAll_35 : decode cX19_arriveAll 35 = .ok (.aload_n 0, 1) := by decide +kernel
theorem dX19_arriveAll_36 : decode cX19_arriveAll 36 = .ok (.getfield 124, 3) := by decide +kernel
theorem dX19_arriveAll_39 : decode cX19_arriveAll 39 = .ok (.bipush 7, 2) := by decide +kernel
theorem dX19_arriveAll_41 : decode cX19_arriveAll 41 = .ok (.iload_n 1, 1) := by decide +kernel
theorem dX19_arriveAll_42 : decode cX19_arriveAll 42 = .ok (.imul, 1) := by decide +kernel
theorem dX19_arriveAll_43 : decode cX19_arriveAll 43 = .ok (.iaload, 1) := by decide +kernel
theorem dX19_arriveAll_44 : decode cX19_arriveAll 44 = .ok (.istore_n 2, 1) := by decide +kernel
theorem dX19_arriveAll_45 : decode cX19_arriveAll 45 = .ok (.aload_n 0, 1) := by decide +kernel
theorem dX19_arriveAll_46 : decode cX19_arriveAll 46 = .ok (.getfield 124, 3) := by decide +kernel
theorem dX19_arriveAll_49 : decode cX19_arriveAll 49 = .ok (.bipush 7, 2) := by decide +kernel
theorem dX19_arriveAll_51 : decode cX19_arriveAll 51 = .ok (.iload_n 1, 1) := by decide +kernel
theorem dX19_arriveAll_52 : decode cX19_arriveAll 52 = .ok (.imul, 1) := by decide +kernel
theorem dX19_arriveAll_53 : decode cX19_arriveAll 53 = .ok (.iconst 1, 1) := by decide +kernel
theorem dX19_arriveAll_54 : decode cX19_arriveAll 54 = .ok (.iadd, 1) := by decide +kernel
theorem dX19_arriveAll_55 : decode cX19_arriveAll 55 = .ok (.iaload, 1) := by decide +kernel
theorem dX19_arriveAll_56 : decode cX19_arriveAll 56 = .ok (.istore_n 3, 1) := by decide +kernel
theorem dX19_arriveAll_57 : decode cX19_arriveAll 57 = .ok (.aload_n 0, 1) := by decide +kernel
theorem dX19_arriveAll_58 : decode cX19_arriveAll 58 = .ok (.getfield 124, 3) := by decide +kernel
theorem dX19_arriveAll_61 : decode cX19_arriveAll 61 = .ok (.bipush 7, 2) := by decide +kernel
theorem dX19_arriveAll_63 : decode cX19_arriveAll 63 = .ok (.iload_n 1, 1) := by decide +kernel
theorem dX19_arriveAll_64 : decode cX19_arriveAll 64 = .ok (.imul, 1) := by decide +kernel
theorem dX19_arriveAll_65 : decode cX19_arriveAll 65 = .ok (.iconst 2, 1) := by decide +kernel
theorem dX19_arriveAll_66 : decode cX19_arriveAll 66 = .ok (.iadd, 1) := by decide +kernel
theorem dX19_arriveAll_67 : decode cX19_arriveAll 67 = .ok (.iaload, 1) := by decide +kernel
theorem dX19_arriveAll_68 : decode cX19_arriveAll 68 = .ok (.istore 4, 2) := by decide +kernel
theorem dX19_arriveAll_70 : decode cX19_arriveAll 70 = .ok (.aload_n 0, 1) := by decide +kernel
theorem dX19_arriveAll_71 : decode cX19_arriveAll 71 = .ok (.getfield 124, 3) := by decide +kernel
theorem dX19_arriveAll_74 : decode cX19_arriveAll 74 = .ok (.bipush 7, 2) := by decide +kernel
theorem dX19_arriveAll_76 : decode cX19_arriveAll 76 = .ok (.iload_n 1, 1) := by decide +kernel
theorem dX19_arriveAll_77 : decode cX19_arriveAll 77 = .ok (.imul, 1) := by decide +kernel
theorem dX19_arriveAll_78 : decode cX19_arriveAll 78 = .ok (.iconst 3, 1) := by decide +kernel
theorem dX19_arriveAll_79 : decode cX19_arriveAll 79 = .ok (.iadd, 1) := by decide +kernel
theorem dX19_arriveAll_80 : decode cX19_arriveAll 80 = .ok (.iaload, 1) := by decide +kernel
theorem dX19_arriveAll_81 : decode cX19_arriveAll 81 = .ok (.istore 5, 2) := by decide +kernel
theorem dX19_arriveAll_83 : decode cX19_arriveAll 83 = .ok (.aload_n 0, 1) := by decide +kernel
theorem dX19_arriveAll_84 : decode cX19_arriveAll 84 = .ok (.getfield 124, 3) := by decide +kernel
theorem dX19_arriveAll_87 : decode cX19_arriveAll 87 = .ok (.bipush 7, 2) := by decide +kernel
theorem dX19_arriveAll_89 : decode cX19_arriveAll 89 = .ok (.iload_n 1, 1) := by decide +kernel
theorem dX19_arriveAll_90 : decode cX19_arriveAll 90 = .ok (.imul, 1) := by decide +kernel
theorem dX19_arriveAll_91 : decode cX19_arriveAll 91 = .ok (.iconst 4, 1) := by decide +kernel
theorem dX19_arriveAll_92 : decode cX19_arriveAll 92 = .ok (.iadd, 1) := by decide +kernel
theorem dX19_arriveAll_93 : decode cX19_arriveAll 93 = .ok (.iaload, 1) := by decide +kernel
theorem dX19_arriveAll_94 : decode cX19_arriveAll 94 = .ok (.istore 6, 2) := by decide +kernel
theorem dX19_arriveAll_96 : decode cX19_arriveAll 96 = .ok (.aload_n 0, 1) := by decide +kernel
theorem dX19_arriveAll_97 : decode cX19_arriveAll 97 = .ok (.getfield 124, 3) := by decide +kernel
theorem dX19_arriveAll_100 : decode cX19_arriveAll 100 = .ok (.bipush 7, 2) := by decide +kernel
theorem dX19_arriveAll_102 : decode cX19_arriveAll 102 = .ok (.iload_n 1, 1) := by decide +kernel
theorem dX19_arriveAll_103 : decode cX19_arriveAll 103 = .ok (.imul, 1) := by decide +kernel
theorem dX19_arriveAll_104 : decode cX19_arriveAll 104 = .ok (.iconst 5, 1) := by decide +kernel
theorem dX19_arriveAll_105 : decode cX19_arriveAll 105 = .ok (.iadd, 1) := by decide +kernel
theorem dX19_arriveAll_106 : decode cX19_arriveAll 106 = .ok (.iaload, 1) := by decide +kernel
theorem dX19_arriveAll_107 : decode cX19_arriveAll 107 = .ok (.istore 7, 2) := by decide +kernel
theorem dX19_arriveAll_109 : decode cX19_arriveAll 109 = .ok (.aload_n 0, 1) := by decide +kernel
theorem dX19_arriveAll_110 : decode cX19_arriveAll 110 = .ok (.iload_n 1, 1) := by decide +kernel
theorem dX19_arriveAll_111 : decode cX19_arriveAll 111 = .ok (.invokevirtual 371, 3) := by decide +kernel
theorem dX19_arriveAll_114 : decode cX19_arriveAll 114 = .ok (.aload_n 0, 1) := by decide +kernel
theorem dX19_arriveAll_115 : decode cX19_arriveAll 115 = .ok (.getfield 120, 3) := by decide +kernel
theorem dX19_arriveAll_118 : decode cX19_arriveAll 118 = .ok (.iload_n 2, 1) := by decide +kernel
theorem dX19_arriveAll_119 : decode cX19_arriveAll 119 = .ok (.aaload, 1) := by decide +kernel
theorem dX19_arriveAll_120 : decode cX19_arriveAll 120 = .ok (.astore 8, 2) := by decide +kernel
theorem dX19_arriveAll_122 : decode cX19_arriveAll 122 = .ok (.iconst 0, 1) := by decide +kernel
theorem dX19_arriveAll_123 : decode cX19_arriveAll 123 = .ok (.istore 9, 2) := by decide +kernel
theorem dX19_arriveAll_125 : decode cX19_arriveAll 125 = .ok (.iload 9, 2) := by decide +kernel
theorem dX19_arriveAll_127 : decode cX19_arriveAll 127 = .ok (.aload 8, 2) := by decide +kernel
theorem dX19_arriveAll_129 : decode cX19_arriveAll 129 = .ok (.getfield 292, 3) := by decide +kernel
theorem dX19_arriveAll_132 : decode cX19_arriveAll 132 = .ok (.if_icmp .ge 60, 3) := by decide +kernel
theorem dX19_arriveAll_135 : decode cX19_arriveAll 135 = .ok (.iload 4, 2) := by decide +kernel
theorem dX19_arriveAll_137 : decode cX19_arriveAll 137 = .ok (.iload 9, 2) := by decide +kernel
theorem dX19_arriveAll_139 : decode cX19_arriveAll 139 = .ok (.if_icmp .eq 15, 3) := by decide +kernel
theorem dX19_arriveAll_142 : decode cX19_arriveAll 142 = .ok (.iload 4, 2) := by decide +kernel
theorem dX19_arriveAll_144 : decode cX19_arriveAll 144 = .ok (.iconst (-1), 1) := by decide +kernel
theorem dX19_arriveAll_145 : decode cX19_arriveAll 145 = .ok (.if_icmp .ne 41, 3) := by decide +kernel
theorem dX19_arriveAll_148 : decode cX19_arriveAll 148 = .ok (.iload 9, 2) := by decide +kernel
theorem dX19_arriveAll_150 : decode cX19_arriveAll 150 = .ok (.iload_n 3, 1) := by decide +kernel
theorem dX19_arriveAll_151 : decode cX19_arriveAll 151 = .ok (.if_icmp .eq 35, 3) := by decide +kernel
theorem dX19_arriveAll_154 : decode cX19_arriveAll 154 = .ok (.aload 8, 2) := by decide +kernel
theorem dX19_arriveAll_156 : decode cX19_arriveAll 156 = .ok (.dup, 1) := by decide +kernel
theorem dX19_arriveAll_157 : decode cX19_arriveAll 157 = .ok (.getfield 374, 3) := by decide +kernel
theorem dX19_arriveAll_160 : decode cX19_arriveAll 160 = .ok (.iconst 1, 1) := by decide +kernel
theorem dX19_arriveAll_161 : decode cX19_arriveAll 161 = .ok (.iadd, 1) := by decide +kernel
theorem dX19_arriveAll_162 : decode cX19_arriveAll 162 = .ok (.putfield 374, 3) := by decide +kernel
theorem dX19_arriveAll_165 : decode cX19_arriveAll 165 = .ok (.aload_n 0, 1) := by decide +kernel
theorem dX19_arriveAll_166 : decode cX19_arriveAll 166 = .ok (.aload 8, 2) := by decide +kernel
theorem dX19_arriveAll_168 : decode cX19_arriveAll 168 = .ok (.getfield 295, 3) := by decide +kernel
theorem dX19_arriveAll_171 : decode cX19_arriveAll 171 = .ok (.iload 9, 2) := by decide +kernel
theorem dX19_arriveAll_173 : decode cX19_arriveAll 173 = .ok (.aaload, 1) := by decide +kernel
theorem dX19_arriveAll_174 : decode cX19_arriveAll 174 = .ok (.iload_n 3, 1) := by decide +kernel
theorem dX19_arriveAll_175 : decode cX19_arriveAll 175 = .ok (.iload 4, 2) := by decide +kernel
theorem dX19_arriveAll_177 : decode cX19_arriveAll 177 = .ok (.iload 5, 2) := by decide +kernel
theorem dX19_arriveAll_179 : decode cX19_arriveAll 179 = .ok (.iload 6, 2) := by decide +kernel
theorem dX19_arriveAll_181 : decode cX19_arriveAll 181 = .ok (.iload 7, 2) := by decide +kernel
theorem dX19_arriveAll_183 : decode cX19_arriveAll 183 = .ok (.invokevirtual 377, 3) := by decide +kernel
theorem dX19_arriveAll_186 : decode cX19_arriveAll 186 = .ok (.iinc 9 1, 3) := by decide +kernel
theorem dX19_arriveAll_189 : decode cX19_arriveAll 189 = .ok (.goto (-64), 3) := by decide +kernel
theorem dX19_arriveAll_192 : decode cX19_arriveAll 192 = .ok (.iload 7, 2) := by decide +kernel
theorem dX19_arriveAll_194 : decode cX19_arriveAll 194 = .ok (.iconst (-1), 1) := by decide +kernel
theorem dX19_arriveAll_195 : decode cX19_arriveAll 195 = .ok (.if_icmp .eq 9, 3) := by decide +kernel
theorem dX19_arriveAll_198 : decode cX19_arriveAll 198 = .ok (.aload_n 0, 1) := by decide +kernel
theorem dX19_arriveAll_199 : decode cX19_arriveAll 199 = .ok (.iload 7, 2) := by decide +kernel
theorem dX19_arriveAll_201 : decode cX19_arriveAll 201 = .ok (.invokevirtual 204, 3) := by decide +kernel
theorem dX19_arriveAll_204 : decode cX19_arriveAll 204 = .ok (.goto (-202), 3) := by decide +kernel
theorem dX19_arriveAll_207 : decode cX19_arriveAll 207 = .ok (.return_, 1) := by decide +kernel
theorem dX19_arrive_0 : decode cX19_arrive 0 = .ok (.aload_n 1, 1) := by decide +kernel
theorem dX19_arrive_1 : decode cX19_arrive 1 = .ok (.getfield 207, 3) := by decide +kernel
theorem dX19_arrive_4 : decode cX19_arrive 4 = .ok (.iload_n 2, 1) := by decide +kernel
theorem dX19_arrive_5 : decode cX19_arrive 5 = .ok (.aload_n 0, 1) := by decide +kernel
theorem dX19_arrive_6 : decode cX19_arrive 6 = .ok (.getfield 143, 3) := by decide +kernel
theorem dX19_arrive_9 : decode cX19_arrive 9 = .ok (.iastore, 1) := by decide +kernel
theorem dX19_arrive_10 : decode cX19_arrive 10 = .ok (.aload_n 1, 1) := by decide +kernel
theorem dX19_arrive_11 : decode cX19_arrive 11 = .ok (.iload_n 2, 1) := by decide +kernel
theorem dX19_arrive_12 : decode cX19_arrive 12 = .ok (.invokevirtual 248, 3) := by decide +kernel
theorem dX19_arrive_15 : decode cX19_arrive 15 = .ok (.istore 7, 2) := by decide +kernel
theorem dX19_arrive_17 : decode cX19_arrive 17 = .ok (.iload 7, 2) := by decide +kernel
theorem dX19_arrive_19 : decode cX19_arrive 19 = .ok (.iconst (-1), 1) := by decide +kernel
theorem dX19_arrive_20 : decode cX19_arrive 20 = .ok (.if_icmp .eq 48, 3) := by decide +kernel
theorem dX19_arrive_23 : decode cX19_arrive 23 = .ok (.aload_n 1, 1) := by decide +kernel
theorem dX19_arrive_24 : decode cX19_arrive 24 = .ok (.iload 7, 2) := by decide +kernel
theorem dX19_arrive_26 : decode cX19_arrive 26 = .ok (.invokevirtual 251, 3) := by decide +kernel
theorem dX19_arrive_29 : decode cX19_arrive 29 = .ok (.aload_n 0, 1) := by decide +kernel
theorem dX19_arrive_30 : decode cX19_arrive 30 = .ok (.aload_n 1, 1) := by decide +kernel
theorem dX19_arrive_31 : decode cX19_arrive 31 = .ok (.iload_n 2, 1) := by decide +kernel
theorem dX19_arrive_32 : decode cX19_arrive 32 = .ok (.invokevirtual 254, 3) := by decide +kernel
theorem dX19_arrive_35 : decode cX19_arrive 35 = .ok (.istore 8, 2) := by decide +kernel
theorem dX19_arrive_37 : decode cX19_arrive 37 = .ok (.iload 8, 2) := by decide +kernel
theorem dX19_arrive_39 : decode cX19_arrive 39 = .ok (.iconst (-1), 1) := by decide +kernel
theorem dX19_arrive_40 : decode cX19_arrive 40 = .ok (.if_icmp .eq 28, 3) := by decide +kernel
theorem dX19_arrive_43 : decode cX19_arrive 43 = .ok (.aload_n 0, 1) := by decide +kernel
theorem dX19_arrive_44 : decode cX19_arrive 44 = .ok (.aload_n 1, 1) := by decide +kernel
theorem dX19_arrive_45 : decode cX19_arrive 45 = .ok (.iload_n 2, 1) := by decide +kernel
theorem dX19_arrive_46 : decode cX19_arrive 46 = .ok (.iload 8, 2) := by decide +kernel
theorem dX19_arrive_48 : decode cX19_arrive 48 = .ok (.invokevirtual 215, 3) := by decide +kernel
theorem dX19_arrive_51 : decode cX19_arrive 51 = .ok (.aload_n 0, 1) := by decide +kernel
theorem dX19_arrive_52 : decode cX19_arrive 52 = .ok (.iload 8, 2) := by decide +kernel
theorem dX19_arrive_54 : decode cX19_arrive 54 = .ok (.invokevirtual 204, 3) := by decide +kernel
theorem dX19_arrive_57 : decode cX19_arrive 57 = .ok (.aload_n 0, 1) := by decide +kernel
theorem dX19_arrive_58 : decode cX19_arrive 58 = .ok (.aload_n 1, 1) := by decide +kernel
theorem dX19_arrive_59 : decode cX19_arrive 59 = .ok (.iload_n 2, 1) := by decide +kernel
theorem dX19_arrive_60 : decode cX19_arrive 60 = .ok (.invokevirtual 254, 3) := by decide +kernel
theorem dX19_arrive_63 : decode cX19_arrive 63 = .ok (.istore 8, 2) := by decide +kernel
theorem dX19_arrive_65 : decode cX19_arrive 65 = .ok (.goto (-28), 3) := by decide +kernel
theorem dX19_arrive_68 : decode cX19_arrive 68 = .ok (.iload 4, 2) := by decide +kernel
theorem dX19_arrive_70 : decode cX19_arrive 70 = .ok (.ifCond .ne 24, 3) := by decide +kernel
theorem dX19_arrive_73 : decode cX19_arrive 73 = .ok (.iload 5, 2) := by decide +kernel
theorem dX19_arrive_75 : decode cX19_arrive 75 = .ok (.aload_n 1, 1) := by decide +kernel
theorem dX19_arrive_76 : decode cX19_arrive 76 = .ok (.invokevirtual 280, 3) := by decide +kernel
theorem dX19_arrive_79 : decode cX19_arrive 79 = .ok (.if_icmp .ne 133, 3) := by decide +kernel
theorem dX19_arrive_82 : decode cX19_arrive 82 = .ok (.aload_n 0, 1) := by decide +kernel
theorem dX19_arrive_83 : decode cX19_arrive 83 = .ok (.aload_n 1, 1) := by decide +kernel
theorem dX19_arrive_84 : decode cX19_arrive 84 = .ok (.iload_n 2, 1) := by decide +kernel
theorem dX19_arrive_85 : decode cX19_arrive 85 = .ok (.iconst 1, 1) := by decide +kernel
theorem dX19_arrive_86 : decode cX19_arrive 86 = .ok (.iconst 0, 1) := by decide +kernel
theorem dX19_arrive_87 : decode cX19_arrive 87 = .ok (.iconst (-1), 1) := by decide +kernel
theorem dX19_arrive_88 : decode cX19_arrive 88 = .ok (.invokevirtual 194, 3) := by decide +kernel
theorem dX19_arrive_91 : decode cX19_arrive 91 = .ok (.goto 121, 3) := by decide +kernel
theorem dX19_arrive_94 : decode cX19_arrive 94 = .ok (.iload 4, 2) := by decide +kernel
theorem dX19_arrive_96 : decode cX19_arrive 96 = .ok (.iconst 2, 1) := by decide +kernel
theorem dX19_arrive_97 : decode cX19_arrive 97 = .ok (.if_icmp .ne 115, 3) := by decide +kernel
theorem dX19_arrive_100 : decode cX19_arrive 100 = .ok (.aload_n 0, 1) := by decide +kernel
theorem dX19_arrive_101 : decode cX19_arrive 101 = .ok (.iload 6, 2) := by decide +kernel
theorem dX19_arrive_103 : decode cX19_arrive 103 = .ok (.invokevirtual 187, 3) := by decide +kernel
theorem dX19_arrive_106 : decode cX19_arrive 106 = .ok (.istore 8, 2) := by decide +kernel
theorem dX19_arrive_108 : decode cX19_arrive 108 = .ok (.aload_n 0, 1) := by decide +kernel
theorem dX19_arrive_109 : decode cX19_arrive 109 = .ok (.iload 8, 2) := by decide +kernel
theorem dX19_arrive_111 : decode cX19_arrive 111 = .ok (.bipush 9, 2) := by decide +kernel
theorem dX19_arrive_113 : decode cX19_arrive 113 = .ok (.aload_n 1, 1) := by decide +kernel
theorem dX19_arrive_114 : decode cX19_arrive 114 = .ok (.getfield 380, 3) := by decide +kernel
theorem dX19_arrive_117 : decode cX19_arrive 117 = .ok (.invokevirtual 14, 3) := by decide +kernel
theorem dX19_arrive_120 : decode cX19_arrive 120 = .ok (.aload_n 0, 1) := by decide +kernel
theorem dX19_arrive_121 : decode cX19_arrive 121 = .ok (.iload 8, 2) := by decide +kernel
theorem dX19_arrive_123 : decode cX19_arrive 123 = .ok (.iconst 1, 1) := by decide +kernel
theorem dX19_arrive_124 : decode cX19_arrive 124 = .ok (.invokevirtual 18, 3) := by decide +kernel
theorem dX19_arrive_127 : decode cX19_arrive 127 = .ok (.istore 9, 2) := by decide +kernel
theorem dX19_arrive_129 : decode cX19_arrive 129 = .ok (.iload 9, 2) := by decide +kernel
theorem dX19_arrive_131 : decode cX19_arrive 131 = .ok (.ifCond .eq 16, 3) := by decide +kernel
theorem dX19_arrive_134 : decode cX19_arrive 134 = .ok (.aload_n 0, 1) := by decide +kernel
theorem dX19_arrive_135 : decode cX19_arrive 135 = .ok (.aload_n 1, 1) := by decide +kernel
theorem dX19_arrive_136 : decode cX19_arrive 136 = .ok (.getfield 197, 3) := by decide +kernel
theorem dX19_arrive_139 : decode cX19_arrive 139 = .ok (.iload 9, 2) := by decide +kernel
theorem dX19_arrive_141 : decode cX19_arrive 141 = .ok (.invokevirtual 318, 3) := by decide +kernel
theorem dX19_arrive_144 : decode cX19_arrive 144 = .ok (.ifCond .eq 16, 3) := by decide +kernel
theorem dX19_arrive_147 : decode cX19_arrive 147 = .ok (.aload_n 0, 1) := by decide +kernel
theorem dX19_arrive_148 : decode cX19_arrive 148 = .ok (.aload_n 1, 1) := by decide +kernel
theorem dX19_arrive_149 : decode cX19_arrive 149 = .ok (.getfield 197, 3) := by decide +kernel
theorem dX19_arrive_152 : decode cX19_arrive 152 = .ok (.iload 8, 2) := by decide +kernel
theorem dX19_arrive_154 : decode cX19_arrive 154 = .ok (.invokevirtual 383, 3) := by decide +kernel
theorem dX19_arrive_157 : decode cX19_arrive 157 = .ok (.goto 49, 3) := by decide +kernel
theorem dX19_arrive_160 : decode cX19_arrive 160 = .ok (.aload_n 1, 1) := by decide +kernel
theorem dX19_arrive_161 : decode cX19_arrive 161 = .ok (.getfield 197, 3) := by decide +kernel
theorem dX19_arrive_164 : decode cX19_arrive 164 = .ok (.getfield 298, 3) := by decide +kernel
theorem dX19_arrive_167 : decode cX19_arrive 167 = .ok (.ifCond .eq 39, 3) := by decide +kernel
theorem dX19_arrive_170 : decode cX19_arrive 170 = .ok (.iload_n 3, 1) := by decide +kernel
theorem dX19_arrive_171 : decode cX19_arrive 171 = .ok (.iconst (-1), 1) := by decide +kernel
theorem dX19_arrive_172 : decode cX19_arrive 172 = .ok (.if_icmp .eq 34, 3) := by decide +kernel
theorem dX19_arrive_175 : decode cX19_arrive 175 = .ok (.aload_n 0, 1) := by decide +kernel
theorem dX19_arrive_176 : decode cX19_arrive 176 = .ok (.iload 8, 2) := by decide +kernel
theorem dX19_arrive_178 : decode cX19_arrive 178 = .ok (.iconst 2, 1) := by decide +kernel
theorem dX19_arrive_179 : decode cX19_arrive 179 = .ok (.invokevirtual 18, 3) := by decide +kernel
theorem dX19_arrive_182 : decode cX19_arrive 182 = .ok (.iconst 1, 1) := by decide +kernel
theorem dX19_arrive_183 : decode cX19_arrive 183 = .ok (.if_icmp .eq 13, 3) := by decide +kernel
theorem dX19_arrive_186 : decode cX19_arrive 186 = .ok (.aload_n 0, 1) := by decide +kernel
theorem dX19_arrive_187 : decode cX19_arrive 187 = .ok (.iload 8, 2) := by decide +kernel
theorem dX19_arrive_189 : decode cX19_arrive 189 = .ok (.iconst 2, 1) := by decide +kernel
theorem dX19_arrive_190 : decode cX19_arrive 190 = .ok (.invokevirtual 18, 3) := by decide +kernel
theorem dX19_arrive_193 : decode cX19_arrive 193 = .ok (.ifCond .ne 13, 3) := by decide +kernel
theorem dX19_arrive_196 : decode cX19_arrive 196 = .ok (.aload_n 0, 1) := by decide +kernel
theorem dX19_arrive_197 : decode cX19_arrive 197 = .ok (.aload_n 1, 1) := by decide +kernel
theorem dX19_arrive_198 : decode cX19_arrive 198 = .ok (.getfield 197, 3) := by decide +kernel
theorem dX19_arrive_201 : decode cX19_arrive 201 = .ok (.iload 8, 2) := by decide +kernel
theorem dX19_arrive_203 : decode cX19_arrive 203 = .ok (.invokevirtual 386, 3) := by decide +kernel
theorem dX19_arrive_206 : decode cX19_arrive 206 = .ok (.aload_n 0, 1) := by decide +kernel
theorem dX19_arrive_207 : decode cX19_arrive 207 = .ok (.iload 8, 2) := by decide +kernel
theorem dX19_arrive_209 : decode cX19_arrive 209 = .ok (.invokevirtual 204, 3) := by decide +kernel
theorem dX19_arrive_212 : decode cX19_arrive 212 = .ok (.return_, 1) := by decide +kernel
theorem dX19_forward_0 : decode cX19_forward 0 = .ok (.aload_n 0, 1) := by decide +kernel
theorem dX19_forward_1 : decode cX19_forward 1 = .ok (.iload_n 2, 1) := by decide +kernel
theorem dX19_forward_2 : decode cX19_forward 2 = .ok (.iconst 4, 1) := by decide +kernel
theorem dX19_forward_3 : decode cX19_forward 3 = .ok (.aload_n 0, 1) := by decide +kernel
theorem dX19_forward_4 : decode cX19_forward 4 = .ok (.iload_n 2, 1) := by decide +kernel
theorem dX19_forward_5 : decode cX19_forward 5 = .ok (.iconst 4, 1) := by decide +kernel
theorem dX19_forward_6 : decode cX19_forward 6 = .ok (.invokevirtual 18, 3) := by decide +kernel
theorem dX19_forward_9 : decode cX19_forward 9 = .ok (.iconst 1, 1) := by decide +kernel
theorem dX19_forward_10 : decode cX19_forward 10 = .ok (.isub, 1) := by decide +kernel
theorem dX19_forward_11 : decode cX19_forward 11 = .ok (.invokevirtual 14, 3) := by decide +kernel
theorem dX19_forward_14 : decode cX19_forward 14 = .ok (.aload_n 0, 1) := by decide +kernel
theorem dX19_forward_15 : decode cX19_forward 15 = .ok (.iload_n 2, 1) := by decide +kernel
theorem dX19_forward_16 : decode cX19_forward 16 = .ok (.iconst 4, 1) := by decide +kernel
theorem dX19_forward_17 : decode cX19_forward 17 = .ok (.invokevirtual 18, 3) := by decide +kernel
theorem dX19_forward_20 : decode cX19_forward 20 = .ok (.ifCond .ne 12, 3) := by decide +kernel
theorem dX19_forward_23 : decode cX19_forward 23 = .ok (.aload_n 0, 1) := by decide +kernel
theorem dX19_forward_24 : decode cX19_forward 24 = .ok (.aload_n 1, 1) := by decide +kernel
theorem dX19_forward_25 : decode cX19_forward 25 = .ok (.iload_n 2, 1) := by decide +kernel
theorem dX19_forward_26 : decode cX19_forward 26 = .ok (.invokevirtual 258, 3) := by decide +kernel
theorem dX19_forward_29 : decode cX19_forward 29 = .ok (.goto 10, 3) := by decide +kernel
theorem dX19_forward_32 : decode cX19_forward 32 = .ok (.aload_n 0, 1) := by decide +kernel
theorem dX19_forward_33 : decode cX19_forward 33 = .ok (.aload_n 1, 1) := by decide +kernel
theorem dX19_forward_34 : decode cX19_forward 34 = .ok (.iload_n 2, 1) := by decide +kernel
theorem dX19_forward_35 : decode cX19_forward 35 = .ok (.iconst 1, 1) := by decide +kernel
theorem dX19_forward_36 : decode cX19_forward 36 = .ok (.invokevirtual 333, 3) := by decide +kernel
theorem dX19_forward_39 : decode cX19_forward 39 = .ok (.return_, 1) := by decide +kernel
theorem dX19_get_0 : decode cX19_get 0 = .ok (.aload_n 0, 1) := by decide +kernel
theorem dX19_get_1 : decode cX19_get 1 = .ok (.iload_n 2, 1) := by decide +kernel
theorem dX19_get_2 : decode cX19_get 2 = .ok (.bipush 8, 2) := by decide +kernel
theorem dX19_get_4 : decode cX19_get 4 = .ok (.invokevirtual 18, 3) := by decide +kernel
theorem dX19_get_7 : decode cX19_get 7 = .ok (.ifCond .ne 10, 3) := by decide +kernel
theorem dX19_get_10 : decode cX19_get 10 = .ok (.aload_n 0, 1) := by decide +kernel
theorem dX19_get_11 : decode cX19_get 11 = .ok (.aload_n 1, 1) := by decide +kernel
theorem dX19_get_12 : decode cX19_get 12 = .ok (.iload_n 2, 1) := by decide +kernel
theorem dX19_get_13 : decode cX19_get 13 = .ok (.invokevirtual 389, 3) := by decide +kernel
theorem dX19_get_16 : decode cX19_get 16 = .ok (.return_, 1) := by decide +kernel
theorem dX19_get_17 : decode cX19_get 17 = .ok (.iconst (-1), 1) := by decide +kernel
theorem dX19_get_18 : decode cX19_get 18 = .ok (.istore_n 3, 1) := by decide +kernel
theorem dX19_get_19 : decode cX19_get 19 = .ok (.iconst 0, 1) := by decide +kernel
theorem dX19_get_20 : decode cX19_get 20 = .ok (.istore 4, 2) := by decide +kernel
theorem dX19_get_22 : decode cX19_get 22 = .ok (.iload 4, 2) := by decide +kernel
theorem dX19_get_24 : decode cX19_get 24 = .ok (.aload_n 1, 1) := by decide +kernel
theorem dX19_get_25 : decode cX19_get 25 = .ok (.getfield 392, 3) := by decide +kernel
theorem dX19_get_28 : decode cX19_get 28 = .ok (.if_icmp .ge 81, 3) := by decide +kernel
theorem dX19_get_31 : decode cX19_get 31 = .ok (.aload_n 1, 1) := by decide +kernel
theorem dX19_get_32 : decode cX19_get 32 = .ok (.getfield 395, 3) := by decide +kernel
theorem dX19_get_35 : decode cX19_get 35 = .ok (.iload 4, 2) := by decide +kernel
theorem dX19_get_37 : decode cX19_get 37 = .ok (.aaload, 1) := by decide +kernel
theorem dX19_get_38 : decode cX19_get 38 = .ok (.astore 5, 2) := by decide +kernel
theorem dX19_get_40 : decode cX19_get 40 = .ok (.aload 5, 2) := by decide +kernel
theorem dX19_get_42 : decode cX19_get 42 = .ok (.getfield 399, 3) := by decide +kernel
theorem dX19_get_45 : decode cX19_get 45 = .ok (.aload_n 0, 1) := by decide +kernel
theorem dX19_get_46 : decode cX19_get 46 = .ok (.iload_n 2, 1) := by decide +kernel
theorem dX19_get_47 : decode cX19_get 47 = .ok (.iconst 0, 1) := by decide +kernel
theorem dX19_get_48 : decode cX19_get 48 = .ok (.invokevirtual 18, 3) := by decide +kernel
theorem dX19_get_51 : decode cX19_get 51 = .ok (.if_icmp .ne 50, 3) := by decide +kernel
theorem dX19_get_54 : decode cX19_get 54 = .ok (.aload 5, 2) := by decide +kernel
theorem dX19_get_56 : decode cX19_get 56 = .ok (.getfield 404, 3) := by decide +kernel
theorem dX19_get_59 : decode cX19_get 59 = .ok (.aload_n 0, 1) := by decide +kernel
theorem dX19_get_60 : decode cX19_get 60 = .ok (.iload_n 2, 1) := by decide +kernel
theorem dX19_get_61 : decode cX19_get 61 = .ok (.iconst 1, 1) := by decide +kernel
theorem dX19_get_62 : decode cX19_get 62 = .ok (.invokevirtual 18, 3) := by decide +kernel
theorem dX19_get_65 : decode cX19_get 65 = .ok (.if_icmp .ne 36, 3) := by decide +kernel
theorem dX19_get_68 : decode cX19_get 68 = .ok (.aload 5, 2) := by decide +kernel
theorem dX19_get_70 : decode cX19_get 70 = .ok (.getfield 407, 3) := by decide +kernel
theorem dX19_get_73 : decode cX19_get 73 = .ok (.aload_n 0, 1) := by decide +kernel
theorem dX19_get_74 : decode cX19_get 74 = .ok (.iload_n 2, 1) := by decide +kernel
theorem dX19_get_75 : decode cX19_get 75 = .ok (.iconst 2, 1) := by decide +kernel
theorem dX19_get_76 : decode cX19_get 76 = .ok (.invokevirtual 18, 3) := by decide +kernel
theorem dX19_get_79 : decode cX19_get 79 = .ok (.if_icmp .ne 22, 3) := by decide +kernel
theorem dX19_get_82 : decode cX19_get 82 = .ok (.aload 5, 2) := by decide +kernel
theorem dX19_get_84 : decode cX19_get 84 = .ok (.getfield 410, 3) := by decide +kernel
theorem dX19_get_87 : decode cX19_get 87 = .ok (.aload_n 0, 1) := by decide +kernel
theorem dX19_get_88 : decode cX19_get 88 = .ok (.iload_n 2, 1) := by decide +kernel
theorem dX19_get_89 : decode cX19_get 89 = .ok (.iconst 3, 1) := by decide +kernel
theorem dX19_get_90 : decode cX19_get 90 = .ok (.invokevirtual 18, 3) := by decide +kernel
theorem dX19_get_93 : decode cX19_get 93 = .ok (.if_icmp .ne 8, 3) := by decide +kernel
theorem dX19_get_96 : decode cX19_get 96 = .ok (.iload 4, 2) := by decide +kernel
theorem dX19_get_98 : decode cX19_get 98 = .ok (.goto 4, 3) := by decide +kernel
theorem dX19_get_101 : decode cX19_get 101 = .ok (.iload_n 3, 1) := by decide +kernel
theorem dX19_get_102 : decode cX19_get 102 = .ok (.istore_n 3, 1) := by decide +kernel
theorem dX19_get_103 : decode cX19_get 103 = .ok (.iinc 4 1, 3) := by decide +kernel
theorem dX19_get_106 : decode cX19_get 106 = .ok (.goto (-84), 3) := by decide +kernel
theorem dX19_get_109 : decode cX19_get 109 = .ok (.iload_n 3, 1) := by decide +kernel
theorem dX19_get_110 : decode cX19_get 110 = .ok (.iconst (-1), 1) := by decide +kernel
theorem dX19_get_111 : decode cX19_get 111 = .ok (.if_icmp .ne 128, 3) := by decide +kernel
theorem dX19_get_114 : decode cX19_get 114 = .ok (.aload_n 1, 1) := by decide +kernel
theorem dX19_get_115 : decode cX19_get 115 = .ok (.getfield 392, 3) := by decide +kernel
theorem dX19_get_118 : decode cX19_get 118 = .ok (.iconst 4, 1) := by decide +kernel
theorem dX19_get_119 : decode cX19_get 119 = .ok (.if_icmp .ne 12, 3) := by decide +kernel
theorem dX19_get_122 : decode cX19_get 122 = .ok (.aload_n 1, 1) := by decide +kernel
theorem dX19_get_123 : decode cX19_get 123 = .ok (.iconst 0, 1) := by decide +kernel
theorem dX19_get_124 : decode cX19_get 124 = .ok (.invokestatic 411, 3) := by decide +kernel
theorem dX19_get_127 : decode cX19_get 127 = .ok (.aload_n 0, 1) := by decide +kernel
theorem dX19_get_128 : decode cX19_get 128 = .ok (.invokevirtual 168, 3) := by decide +kernel
theorem dX19_get_131 : decode cX19_get 131 = .ok (.aload_n 1, 1) := by decide +kernel
theorem dX19_get_132 : decode cX19_get 132 = .ok (.getfield 392, 3) := by decide +kernel
theorem dX19_get_135 : decode cX19_get 135 = .ok (.istore_n 3, 1) := by decide +kernel
theorem dX19_get_136 : decode cX19_get 136 = .ok (.aload_n 1, 1) := by decide +kernel
theorem dX19_get_137 : decode cX19_get 137 = .ok (.dup, 1) := by decide +kernel
theorem dX19_get_138 : decode cX19_get 138 = .ok (.getfield 392, 3) := by decide +kernel
theorem dX19_get_141 : decode cX19_get 141 = .ok (.iconst 1, 1) := by decide +kernel
theorem dX19_get_142 : decode cX19_get 142 = .ok (.iadd, 1) := by decide +kernel
theorem dX19_get_143 : decode cX19_get 143 = .ok (.putfield 392, 3) := by decide +kernel
theorem dX19_get_146 : decode cX19_get 146 = .ok (.aload_n 1, 1) := by decide +kernel
theorem dX19_get_147 : decode cX19_get 147 = .ok (.getfield 395, 3) := by decide +kernel
theorem dX19_get_150 : decode cX19_get 150 = .ok (.iload_n 3, 1) := by decide +kernel
theorem dX19_get_151 : decode cX19_get 151 = .ok (.aaload, 1) := by decide +kernel
theorem dX19_get_152 : decode cX19_get 152 = .ok (.astore 4, 2) := by decide +kernel
theorem dX19_get_154 : decode cX19_get 154 = .ok (.aload 4, 2) := by decide +kernel
theorem dX19_get_156 : decode cX19_get 156 = .ok (.aload_n 0, 1) := by decide +kernel
theorem dX19_get_157 : decode cX19_get 157 = .ok (.iload_n 2, 1) := by decide +kernel
theorem dX19_get_158 : decode cX19_get 158 = .ok (.iconst 0, 1) := by decide +kernel
theorem dX19_get_159 : decode cX19_get 159 = .ok (.invokevirtual 18, 3) := by decide +kernel
theorem dX19_get_162 : decode cX19_get 162 = .ok (.putfield 399, 3) := by decide +kernel
theorem dX19_get_165 : decode cX19_get 165 = .ok (.aload 4, 2) := by decide +kernel
theorem dX19_get_167 : decode cX19_get 167 = .ok (.aload_n 0, 1) := by decide +kernel
theorem dX19_get_168 : decode cX19_get 168 = .ok (.iload_n 2, 1) := by decide +kernel
theorem dX19_get_169 : decode cX19_get 169 = .ok (.iconst 1, 1) := by decide +kernel
theorem dX19_get_170 : decode cX19_get 170 = .ok (.invokevirtual 18, 3) := by decide +kernel
theorem dX19_get_173 : decode cX19_get 173 = .ok (.putfield 404, 3) := by decide +kernel
theorem dX19_get_176 : decode cX19_get 176 = .ok (.aload 4, 2) := by decide +kernel
theorem dX19_get_178 : decode cX19_get 178 = .ok (.aload_n 0, 1) := by decide +kernel
theorem dX19_get_179 : decode cX19_get 179 = .ok (.iload_n 2, 1) := by decide +kernel
theorem dX19_get_180 : decode cX19_get 180 = .ok (.iconst 2, 1) := by decide +kernel
theorem dX19_get_181 : decode cX19_get 181 = .ok (.invokevirtual 18, 3) := by decide +kernel
theorem dX19_get_184 : decode cX19_get 184 = .ok (.putfield 407, 3) := by decide +kernel
theorem dX19_get_187 : decode cX19_get 187 = .ok (.aload 4, 2) := by decide +kernel
theorem dX19_get_189 : decode cX19_get 189 = .ok (.aload_n 0, 1) := by decide +kernel
theorem dX19_get_190 : decode cX19_get 190 = .ok (.iload_n 2, 1) := by decide +kernel
theorem dX19_get_191 : decode cX19_get 191 = .ok (.iconst 3, 1) := by decide +kernel
theorem dX19_get_192 : decode cX19_get 192 = .ok (.invokevirtual 18, 3) := by decide +kernel
theorem dX19_get_195 : decode cX19_get 195 = .ok (.putfield 410, 3) := by decide +kernel
theorem dX19_get_198 : decode cX19_get 198 = .ok (.aload 4, 2) := by decide +kernel
theorem dX19_get_200 : decode cX19_get 200 = .ok (.aload_n 0, 1) := by decide +kernel
theorem dX19_get_201 : decode cX19_get 201 = .ok (.getfield 143, 3) := by decide +kernel
theorem dX19_get_204 : decode cX19_get 204 = .ok (.putfield 414, 3) := by decide +kernel
theorem dX19_get_207 : decode cX19_get 207 = .ok (.aload 4, 2) := by decide +kernel
theorem dX19_get_209 : decode cX19_get 209 = .ok (.iconst (-1), 1) := by decide +kernel
theorem dX19_get_210 : decode cX19_get 210 = .ok (.putfield 417, 3) := by decide +kernel
theorem dX19_get_213 : decode cX19_get 213 = .ok (.iconst 0, 1) := by decide +kernel
theorem dX19_get_214 : decode cX19_get 214 = .ok (.istore 5, 2) := by decide +kernel
theorem dX19_get_216 : decode cX19_get 216 = .ok (.iload 5, 2) := by decide +kernel
theorem dX19_get_218 : decode cX19_get 218 = .ok (.sipush 192, 3) := by decide +kernel
theorem dX19_get_221 : decode cX19_get 221 = .ok (.if_icmp .ge 18, 3) := by decide +kernel
theorem dX19_get_224 : decode cX19_get 224 = .ok (.aload 4, 2) := by decide +kernel
theorem dX19_get_226 : decode cX19_get 226 = .ok (.getfield 420, 3) := by decide +kernel
theorem dX19_get_229 : decode cX19_get 229 = .ok (.iload 5, 2) := by decide +kernel
theorem dX19_get_231 : decode cX19_get 231 = .ok (.iconst 0, 1) := by decide +kernel
theorem dX19_get_232 : decode cX19_get 232 = .ok (.bastore, 1) := by decide +kernel
theorem dX19_get_233 : decode cX19_get 233 = .ok (.iinc 5 1, 3) := by decide +kernel
theorem dX19_get_236 : decode cX19_get 236 = .ok (.goto (-20), 3) := by decide +kernel
theorem dX19_get_239 : decode cX19_get 239 = .ok (.aload_n 1, 1) := by decide +kernel
theorem dX19_get_240 : decode cX19_get 240 = .ok (.getfield 395, 3) := by decide +kernel
theorem dX19_get_243 : decode cX19_get 243 = .ok (.iload_n 3, 1) := by decide +kernel
theorem dX19_get_244 : decode cX19_get 244 = .ok (.aaload, 1) := by decide +kernel
theorem dX19_get_245 : decode cX19_get 245 = .ok (.astore 4, 2) := by decide +kernel
theorem dX19_get_247 : decode cX19_get 247 = .ok (.aload_n 0, 1) := by decide +kernel
theorem dX19_get_248 : decode cX19_get 248 = .ok (.iload_n 2, 1) := by decide +kernel
theorem dX19_get_249 : decode cX19_get 249 = .ok (.bipush 6, 2) := by decide +kernel
theorem dX19_get_251 : decode cX19_get 251 = .ok (.invokevirtual 18, 3) := by decide +kernel
theorem dX19_get_254 : decode cX19_get 254 = .ok (.aload_n 0, 1) := by decide +kernel
theorem dX19_get_255 : decode cX19_get 255 = .ok (.iload_n 2, 1) := by decide +kernel
theorem dX19_get_256 : decode cX19_get 256 = .ok (.iconst 5, 1) := by decide +kernel
theorem dX19_get_257 : decode cX19_get 257 = .ok (.invokevirtual 18, 3) := by decide +kernel
theorem dX19_get_260 : decode cX19_get 260 = .ok (.iadd, 1) := by decide +kernel
theorem dX19_get_261 : decode cX19_get 261 = .ok (.istore 5, 2) := by decide +kernel
theorem dX19_get_263 : decode cX19_get 263 = .ok (.aload_n 0, 1) := by decide +kernel
theorem dX19_get_264 : decode cX19_get 264 = .ok (.iload_n 2, 1) := by decide +kernel
theorem dX19_get_265 : decode cX19_get 265 = .ok (.bipush 6, 2) := by decide +kernel
theorem dX19_get_267 : decode cX19_get 267 = .ok (.invokevirtual 18, 3) := by decide +kernel
theorem dX19_get_270 : decode cX19_get 270 = .ok (.bipush 8, 2) := by decide +kernel
theorem dX19_get_272 : decode cX19_get 272 = .ok (.idiv, 1) := by decide +kernel
theorem dX19_get_273 : decode cX19_get 273 = .ok (.istore 6, 2) := by decide +kernel
theorem dX19_get_275 : decode cX19_get 275 = .ok (.bipush 8, 2) := by decide +kernel
theorem dX19_get_277 : decode cX19_get 277 = .ok (.iload 6, 2) := by decide +kernel
theorem dX19_get_279 : decode cX19_get 279 = .ok (.imul, 1) := by decide +kernel
theorem dX19_get_280 : decode cX19_get 280 = .ok (.iload 5, 2) := by decide +kernel
theorem dX19_get_282 : decode cX19_get 282 = .ok (.if_icmp .ge 18, 3) := by decide +kernel
theorem dX19_get_285 : decode cX19_get 285 = .ok (.aload 4, 2) := by decide +kernel
theorem dX19_get_287 : decode cX19_get 287 = .ok (.getfield 420, 3) := by decide +kernel
theorem dX19_get_290 : decode cX19_get 290 = .ok (.iload 6, 2) := by decide +kernel
theorem dX19_get_292 : decode cX19_get 292 = .ok (.iconst 1, 1) := by decide +kernel
theorem dX19_get_293 : decode cX19_get 293 = .ok (.bastore, 1) := by decide +kernel
theorem dX19_get_294 : decode cX19_get 294 = .ok (.iinc 6 1, 3) := by decide +kernel
theorem dX19_get_297 : decode cX19_get 297 = .ok (.goto (-22), 3) := by decide +kernel
theorem dX19_get_300 : decode cX19_get 300 = .ok (.aload_n 0, 1) := by decide +kernel
theorem dX19_get_301 : decode cX19_get 301 = .ok (.iload_n 2, 1) := by decide +kernel
theorem dX19_get_302 : decode cX19_get 302 = .ok (.bipush 7, 2) := by decide +kernel
theorem dX19_get_304 : decode cX19_get 304 = .ok (.invokevirtual 18, 3) := by decide +kernel
theorem dX19_get_307 : decode cX19_get 307 = .ok (.ifCond .ne 10, 3) := by decide +kernel
theorem dX19_get_310 : decode cX19_get 310 = .ok (.aload 4, 2) := by decide +kernel
theorem dX19_get_312 : decode cX19_get 312 = .ok (.iload 5, 2) := by decide +kernel
theorem dX19_get_314 : decode cX19_get 314 = .ok (.putfield 417, 3) := by decide +kernel
theorem dX19_get_317 : decode cX19_get 317 = .ok (.aload 4, 2) := by decide +kernel
theorem dX19_get_319 : decode cX19_get 319 = .ok (.invokevirtual 423, 3) := by decide +kernel
theorem dX19_get_322 : decode cX19_get 322 = .ok (.ifCond .eq 24, 3) := by decide +kernel
theorem dX19_get_325 : decode cX19_get 325 = .ok (.aload_n 1, 1) := by decide +kernel
theorem dX19_get_326 : decode cX19_get 326 = .ok (.iload_n 3, 1) := by decide +kernel
theorem dX19_get_327 : decode cX19_get 327 = .ok (.invokestatic 411, 3) := by decide +kernel
theorem dX19_get_330 : decode cX19_get 330 = .ok (.aload_n 1, 1) := by decide +kernel
theorem dX19_get_331 : decode cX19_get 331 = .ok (.dup, 1) := by decide +kernel
theorem dX19_get_332 : decode cX19_get 332 = .ok (.getfield 427, 3) := by decide +kernel
theorem dX19_get_335 : decode cX19_get 335 = .ok (.iconst 1, 1) := by decide +kernel
theorem dX19_get_336 : decode cX19_get 336 = .ok (.iadd, 1) := by decide +kernel
theorem dX19_get_337 : decode cX19_get 337 = .ok (.putfield 427, 3) := by decide +kernel
theorem dX19_get_340 : decode cX19_get 340 = .ok (.aload_n 0, 1) := by decide +kernel
theorem dX19_get_341 : decode cX19_get 341 = .ok (.aload_n 1, 1) := by decide +kernel
theorem dX19_get_342 : decode cX19_get 342 = .ok (.iload_n 2, 1) := by decide +kernel
theorem dX19_get_343 : decode cX19_get 343 = .ok (.invokevirtual 389, 3) := by decide +kernel
theorem dX19_get_346 : decode cX19_get 346 = .ok (.return_, 1) := by decide +kernel
theorem dX19_endPieces_0 : decode cX19_endPieces 0 = .ok (.aload_n 0, 1) := by decide +kernel
theorem dX19_endPieces_1 : decode cX19_endPieces 1 = .ok (.getfield 395, 3) := by decide +kernel
theorem dX19_endPieces_4 : decode cX19_endPieces 4 = .ok (.iload_n 1, 1) := by decide +kernel
theorem dX19_endPieces_5 : decode cX19_endPieces 5 = .ok (.aaload, 1) := by decide +kernel
theorem dX19_endPieces_6 : decode cX19_endPieces 6 = .ok (.astore_n 2, 1) := by decide +kernel
theorem dX19_endPieces_7 : decode cX19_endPieces 7 = .ok (.aload_n 0, 1) := by decide +kernel
theorem dX19_endPieces_8 : decode cX19_endPieces 8 = .ok (.dup, 1) := by decide +kernel
theorem dX19_endPieces_9 : decode cX19_endPieces 9 = .ok (.getfield 392, 3) := by decide +kernel
theorem dX19_endPieces_12 : decode cX19_endPieces 12 = .ok (.iconst 1, 1) := by decide +kernel
theorem dX19_endPieces_13 : decode cX19_endPieces 13 = .ok (.isub, 1) := by decide +kernel
theorem dX19_endPieces_14 : decode cX19_endPieces 14 = .ok (.putfield 392, 3) := by decide +kernel
theorem dX19_endPieces_17 : decode cX19_endPieces 17 = .ok (.iload_n 1, 1) := by decide +kernel
theorem dX19_endPieces_18 : decode cX19_endPieces 18 = .ok (.istore_n 3, 1) := by decide +kernel
theorem dX19_endPieces_19 : decode cX19_endPieces 19 = .ok (.iload_n 3, 1) := by decide +kernel
theorem dX19_endPieces_20 : decode cX19_endPieces 20 = .ok (.aload_n 0, 1) := by decide +kernel
theorem dX19_endPieces_21 : decode cX19_endPieces 21 = .ok (.getfield 392, 3) := by decide +kernel
theorem dX19_endPieces_24 : decode cX19_endPieces 24 = .ok (.if_icmp .ge 23, 3) := by decide +kernel
theorem dX19_endPieces_27 : decode cX19_endPieces 27 = .ok (.aload_n 0, 1) := by decide +kernel
theorem dX19_endPieces_28 : decode cX19_endPieces 28 = .ok (.getfield 395, 3) := by decide +kernel
theorem dX19_endPieces_31 : decode cX19_endPieces 31 = .ok (.iload_n 3, 1) := by decide +kernel
theorem dX19_endPieces_32 : decode cX19_endPieces 32 = .ok (.aload_n 0, 1) := by decide +kernel
theorem dX19_endPieces_33 : decode cX19_endPieces 33 = .ok (.getfield 395, 3) := by decide +kernel
theorem dX19_endPieces_36 : decode cX19_endPieces 36 = .ok (.iload_n 3, 1) := by decide +kernel
theorem dX19_endPieces_37 : decode cX19_endPieces 37 = .ok (.iconst 1, 1) := by decide +kernel
theorem dX19_endPieces_38 : decode cX19_endPieces 38 = .ok (.iadd, 1) := by decide +kernel
theorem dX19_endPieces_39 : decode cX19_endPieces 39 = .ok (.aaload, 1) := by decide +kernel
theorem dX19_endPieces_40 : decode cX19_endPieces 40 = .ok (.aastore, 1) := by decide +kernel
theorem dX19_endPieces_41 : decode cX19_endPieces 41 = .ok (.iinc 3 1, 3) := by decide +kernel
theorem dX19_endPieces_44 : decode cX19_endPieces 44 = .ok (.goto (-25), 3) := by decide +kernel
theorem dX19_endPieces_47 : decode cX19_endPieces 47 = .ok (.aload_n 0, 1) := by decide +kernel
theorem dX19_endPieces_48 : decode cX19_endPieces 48 = .ok (.getfield 395, 3) := by decide +kernel
theorem dX19_endPieces_51 : decode cX19_endPieces 51 = .ok (.aload_n 0, 1) := by decide +kernel
theorem dX19_endPieces_52 : decode cX19_endPieces 52 = .ok (.getfield 392, 3) := by decide +kernel
theorem dX19_endPieces_55 : decode cX19_endPieces 55 = .ok (.aload_n 2, 1) := by decide +kernel
theorem dX19_endPieces_56 : decode cX19_endPieces 56 = .ok (.aastore, 1) := by decide +kernel
theorem dX19_endPieces_57 : decode cX19_endPieces 57 = .ok (.return_, 1) := by decide +kernel
theorem dX19_handle_0 : decode cX19_handle 0 = .ok (.aload_n 1, 1) := by decide +kernel
theorem dX19_handle_1 : decode cX19_handle 1 = .ok (.dup, 1) := by decide +kernel
theorem dX19_handle_2 : decode cX19_handle 2 = .ok (.getfield 430, 3) := by decide +kernel
theorem dX19_handle_5 : decode cX19_handle 5 = .ok (.iconst 1, 1) := by decide +kernel
theorem dX19_handle_6 : decode cX19_handle 6 = .ok (.iadd, 1) := by decide +kernel
theorem dX19_handle_7 : decode cX19_handle 7 = .ok (.putfield 430, 3) := by decide +kernel
theorem dX19_handle_10 : decode cX19_handle 10 = .ok (.aload_n 0, 1) := by decide +kernel
theorem dX19_handle_11 : decode cX19_handle 11 = .ok (.iload_n 2, 1) := by decide +kernel
theorem dX19_handle_12 : decode cX19_handle 12 = .ok (.iconst 2, 1) := by decide +kernel
theorem dX19_handle_13 : decode cX19_handle 13 = .ok (.invokevirtual 18, 3) := by decide +kernel
theorem dX19_handle_16 : decode cX19_handle 16 = .ok (.istore_n 3, 1) := by decide +kernel
theorem dX19_handle_17 : decode cX19_handle 17 = .ok (.iload_n 3, 1) := by decide +kernel
theorem dX19_handle_18 : decode cX19_handle 18 = .ok (.ifCond .ne 49, 3) := by decide +kernel
theorem dX19_handle_21 : decode cX19_handle 21 = .ok (.aload_n 1, 1) := by decide +kernel
theorem dX19_handle_22 : decode cX19_handle 22 = .ok (.dup, 1) := by decide +kernel
theorem dX19_handle_23 : decode cX19_handle 23 = .ok (.getfield 322, 3) := by decide +kernel
theorem dX19_handle_26 : decode cX19_handle 26 = .ok (.iconst 1, 1) := by decide +kernel
theorem dX19_handle_27 : decode cX19_handle 27 = .ok (.iadd, 1) := by decide +kernel
theorem dX19_handle_28 : decode cX19_handle 28 = .ok (.putfield 322, 3) := by decide +kernel
theorem dX19_handle_31 : decode cX19_handle 31 = .ok (.aload_n 0, 1) := by decide +kernel
theorem dX19_handle_32 : decode cX19_handle 32 = .ok (.aload_n 1, 1) := by decide +kernel
theorem dX19_handle_33 : decode cX19_handle 33 = .ok (.aload_n 0, 1) := by decide +kernel
theorem dX19_handle_34 : decode cX19_handle 34 = .ok (.iload_n 2, 1) := by decide +kernel
theorem dX19_handle_35 : decode cX19_handle 35 = .ok (.bipush 14, 2) := by decide +kernel
theorem dX19_handle_37 : decode cX19_handle 37 = .ok (.invokevirtual 18, 3) := by decide +kernel
theorem dX19_handle_40 : decode cX19_handle 40 = .ok (.aload_n 0, 1) := by decide +kernel
theorem dX19_handle_41 : decode cX19_handle 41 = .ok (.iload_n 2, 1) := by decide +kernel
theorem dX19_handle_42 : decode cX19_handle 42 = .ok (.bipush 15, 2) := by decide +kernel
theorem dX19_handle_44 : decode cX19_handle 44 = .ok (.invokevirtual 18, 3) := by decide +kernel
theorem dX19_handle_47 : decode cX19_handle 47 = .ok (.aload_n 0, 1) := by decide +kernel
theorem dX19_handle_48 : decode cX19_handle 48 = .ok (.iload_n 2, 1) := by decide +kernel
theorem dX19_handle_49 : decode cX19_handle 49 = .ok (.bipush 16, 2) := by decide +kernel
theorem dX19_handle_51 : decode cX19_handle 51 = .ok (.invokevirtual 18, 3) := by decide +kernel
theorem dX19_handle_54 : decode cX19_handle 54 = .ok (.aload_n 0, 1) := by decide +kernel
theorem dX19_handle_55 : decode cX19_handle 55 = .ok (.iload_n 2, 1) := by decide +kernel
theorem dX19_handle_56 : decode cX19_handle 56 = .ok (.bipush 17, 2) := by decide +kernel
theorem dX19_handle_58 : decode cX19_handle 58 = .ok (.invokevirtual 18, 3) := by decide +kernel
theorem dX19_handle_61 : decode cX19_handle 61 = .ok (.invokevirtual 325, 3) := by decide +kernel
theorem dX19_handle_64 : decode cX19_handle 64 = .ok (.goto 200, 3) := by decide +kernel
theorem dX19_handle_67 : decode cX19_handle 67 = .ok (.iload_n 3, 1) := by decide +kernel
theorem dX19_handle_68 : decode cX19_handle 68 = .ok (.iconst 1, 1) := by decide +kernel
theorem dX19_handle_69 : decode cX19_handle 69 = .ok (.if_icmp .ne 31, 3) := by decide +kernel
theorem dX19_handle_72 : decode cX19_handle 72 = .ok (.aload_n 1, 1) := by decide +kernel
theorem dX19_handle_73 : decode cX19_handle 73 = .ok (.getfield 298, 3) := by decide +kernel
theorem dX19_handle_76 : decode cX19_handle 76 = .ok (.ifCond .ne 24, 3) := by decide +kernel
theorem dX19_handle_79 : decode cX19_handle 79 = .ok (.aload_n 0, 1) := by decide +kernel
theorem dX19_handle_80 : decode cX19_handle 80 = .ok (.aload_n 1, 1) := by decide +kernel
theorem dX19_handle_81 : decode cX19_handle 81 = .ok (.aload_n 0, 1) := by decide +kernel
theorem dX19_handle_82 : decode cX19_handle 82 = .ok (.iload_n 2, 1) := by decide +kernel
theorem dX19_handle_83 : decode cX19_handle 83 = .ok (.bipush 10, 2) := by decide +kernel
theorem dX19_handle_85 : decode cX19_handle 85 = .ok (.invokevirtual 18, 3) := by decide +kernel
theorem dX19_handle_88 : decode cX19_handle 88 = .ok (.aload_n 0, 1) := by decide +kernel
theorem dX19_handle_89 : decode cX19_handle 89 = .ok (.iload_n 2, 1) := by decide +kernel
theorem dX19_handle_90 : decode cX19_handle 90 = .ok (.iconst 0, 1) := by decide +kernel
theorem dX19_handle_91 : decode cX19_handle 91 = .ok (.invokevirtual 18, 3) := by decide +kernel
theorem dX19_handle_94 : decode cX19_handle 94 = .ok (.invokevirtual 433, 3) := by decide +kernel
theorem dX19_handle_97 : decode cX19_handle 97 = .ok (.goto 167, 3) := by decide +kernel
theorem dX19_handle_100 : decode cX19_handle 100 = .ok (.iload_n 3, 1) := by decide +kernel
theorem dX19_handle_101 : decode cX19_handle 101 = .ok (.iconst 2, 1) := by decide +kernel
theorem dX19_handle_102 : decode cX19_handle 102 = .ok (.if_icmp .ne 39, 3) := by decide +kernel
theorem dX19_handle_105 : decode cX19_handle 105 = .ok (.aload_n 1, 1) := by decide +kernel
theorem dX19_handle_106 : decode cX19_handle 106 = .ok (.getfield 298, 3) := by decide +kernel
theorem dX19_handle_109 : decode cX19_handle 109 = .ok (.ifCond .eq 32, 3) := by decide +kernel
theorem dX19_handle_112 : decode cX19_handle 112 = .ok (.aload_n 0, 1) := by decide +kernel
theorem dX19_handle_113 : decode cX19_handle 113 = .ok (.aload_n 1, 1) := by decide +kernel
theorem dX19_handle_114 : decode cX19_handle 114 = .ok (.aload_n 0, 1) := by decide +kernel
theorem dX19_handle_115 : decode cX19_handle 115 = .ok (.iload_n 2, 1) := by decide +kernel
theorem dX19_handle_116 : decode cX19_handle 116 = .ok (.bipush 9, 2) := by decide +kernel
theorem dX19_handle_118 : decode cX19_handle 118 = .ok (.invokevirtual 18, 3) := by decide +kernel
theorem dX19_handle_121 : decode cX19_handle 121 = .ok (.aload_n 0, 1) := by decide +kernel
theorem dX19_handle_122 : decode cX19_handle 122 = .ok (.iload_n 2, 1) := by decide +kernel
theorem dX19_handle_123 : decode cX19_handle 123 = .ok (.bipush 12, 2) := by decide +kernel
theorem dX19_handle_125 : decode cX19_handle 125 = .ok (.invokevirtual 18, 3) := by decide +kernel
theorem dX19_handle_128 : decode cX19_handle 128 = .ok (.aload_n 0, 1) := by decide +kernel
theorem dX19_handle_129 : decode cX19_handle 129 = .ok (.iload_n 2, 1) := by decide +kernel
theorem dX19_handle_130 : decode cX19_handle 130 = .ok (.bipush 13, 2) := by decide +kernel
theorem dX19_handle_132 : decode cX19_handle 132 = .ok (.invokevirtual 18, 3) := by decide +kernel
theorem dX19_handle_135 : decode cX19_handle 135 = .ok (.invokevirtual 437, 3) := by decide +kernel
theorem dX19_handle_138 : decode cX19_handle 138 = .ok (.goto 126, 3) := by decide +kernel
theorem dX19_handle_141 : decode cX19_handle 141 = .ok (.iload_n 3, 1) := by decide +kernel
theorem dX19_handle_142 : decode cX19_handle 142 = .ok (.iconst 3, 1) := by decide +kernel
theorem dX19_handle_143 : decode cX19_handle 143 = .ok (.if_icmp .ne 19, 3) := by decide +kernel
theorem dX19_handle_146 : decode cX19_handle 146 = .ok (.aload_n 1, 1) := by decide +kernel
theorem dX19_handle_147 : decode cX19_handle 147 = .ok (.getfield 298, 3) := by decide +kernel
theorem dX19_handle_150 : decode cX19_handle 150 = .ok (.ifCond .eq 12, 3) := by decide +kernel
theorem dX19_handle_153 : decode cX19_handle 153 = .ok (.aload_n 0, 1) := by decide +kernel
theorem dX19_handle_154 : decode cX19_handle 154 = .ok (.aload_n 1, 1) := by decide +kernel
theorem dX19_handle_155 : decode cX19_handle 155 = .ok (.iload_n 2, 1) := by decide +kernel
theorem dX19_handle_156 : decode cX19_handle 156 = .ok (.invokevirtual 441, 3) := by decide +kernel
theorem dX19_handle_159 : decode cX19_handle 159 = .ok (.goto 105, 3) := by decide +kernel
theorem dX19_handle_162 : decode cX19_handle 162 = .ok (.iload_n 3, 1) := by decide +kernel
theorem dX19_handle_163 : decode cX19_handle 163 = .ok (.iconst 4, 1) := by decide +kernel
theorem dX19_handle_164 : decode cX19_handle 164 = .ok (.if_icmp .ne 100, 3) := by decide +kernel
theorem dX19_handle_167 : decode cX19_handle 167 = .ok (.aload_n 1, 1) := by decide +kernel
theorem dX19_handle_168 : decode cX19_handle 168 = .ok (.getfield 298, 3) := by decide +kernel
theorem dX19_handle_171 : decode cX19_handle 171 = .ok (.ifCond .eq 93, 3) := by decide +kernel
theorem dX19_handle_174 : decode cX19_handle 174 = .ok (.aload_n 1, 1) := by decide +kernel
theorem dX19_handle_175 : decode cX19_handle 175 = .ok (.aload_n 0, 1) := by decide +kernel
theorem dX19_handle_176 : decode cX19_handle 176 = .ok (.iload_n 2, 1) := by decide +kernel
theorem dX19_handle_177 : decode cX19_handle 177 = .ok (.bipush 9, 2) := by decide +kernel
theorem dX19_handle_179 : decode cX19_handle 179 = .ok (.invokevirtual 18, 3) := by decide +kernel
theorem dX19_handle_182 : decode cX19_handle 182 = .ok (.aload_n 0, 1) := by decide +kernel
theorem dX19_handle_183 : decode cX19_handle 183 = .ok (.iload_n 2, 1) := by decide +kernel
theorem dX19_handle_184 : decode cX19_handle 184 = .ok (.bipush 12, 2) := by decide +kernel
theorem dX19_handle_186 : decode cX19_handle 186 = .ok (.invokevirtual 18, 3) := by decide +kernel
theorem dX19_handle_189 : decode cX19_handle 189 = .ok (.invokestatic 444, 3) := by decide +kernel
theorem dX19_handle_192 : decode cX19_handle 192 = .ok (.astore 4, 2) := by decide +kernel
theorem dX19_handle_194 : decode cX19_handle 194 = .ok (.aload_n 0, 1) := by decide +kernel
theorem dX19_handle_195 : decode cX19_handle 195 = .ok (.iload_n 2, 1) := by decide +kernel
theorem dX19_handle_196 : decode cX19_handle 196 = .ok (.bipush 13, 2) := by decide +kernel
theorem dX19_handle_198 : decode cX19_handle 198 = .ok (.invokevirtual 18, 3) := by decide +kernel
theorem dX19_handle_201 : decode cX19_handle 201 = .ok (.bipush 24, 2) := by decide +kernel
theorem dX19_handle_203 : decode cX19_handle 203 = .ok (.ishr, 1) := by decide +kernel
theorem dX19_handle_204 : decode cX19_handle 204 = .ok (.sipush 255, 3) := by decide +kernel
theorem dX19_handle_207 : decode cX19_handle 207 = .ok (.iand, 1) := by decide +kernel
theorem dX19_handle_208 : decode cX19_handle 208 = .ok (.istore 5, 2) := by decide +kernel
theorem dX19_handle_210 : decode cX19_handle 210 = .ok (.aload 4, 2) := by decide +kernel
theorem dX19_handle_212 : decode cX19_handle 212 = .ok (.ifnonnull 7, 3) := by decide +kernel
theorem dX19_handle_215 : decode cX19_handle 215 = .ok (.iconst (-1), 1) := by decide +kernel
theorem dX19_handle_216 : decode cX19_handle 216 = .ok (.goto 10, 3) := by decide +kernel
theorem dX19_handle_219 : decode cX19_handle 219 = .ok (.aload_n 1, 1) := by decide +kernel
theorem dX19_handle_220 : decode cX19_handle 220 = .ok (.getfield 448, 3) := by decide +kernel
theorem dX19_handle_223 : decode cX19_handle 223 = .ok (.iload 5, 2) := by decide +kernel
theorem dX19_handle_225 : decode cX19_handle 225 = .ok (.iaload, 1) := by decide +kernel
theorem dX19_handle_226 : decode cX19_handle 226 = .ok (.istore 6, 2) := by decide +kernel
theorem dX19_handle_228 : decode cX19_handle 228 = .ok (.iload 6, 2) := by decide +kernel
theorem dX19_handle_230 : decode cX19_handle 230 = .ok (.iconst (-1), 1) := by decide +kernel
theorem dX19_handle_231 : decode cX19_handle 231 = .ok (.if_icmp .eq 33, 3) := by decide +kernel
theorem dX19_handle_234 : decode cX19_handle 234 = .ok (.aload_n 0, 1) := by decide +kernel
theorem dX19_handle_235 : decode cX19_handle 235 = .ok (.iload 6, 2) := by decide +kernel
theorem dX19_handle_237 : decode cX19_handle 237 = .ok (.iconst 1, 1) := by decide +kernel
theorem dX19_handle_238 : decode cX19_handle 238 = .ok (.invokevirtual 74, 3) := by decide +kernel
theorem dX19_handle_241 : decode cX19_handle 241 = .ok (.aload_n 0, 1) := by decide +kernel
theorem dX19_handle_242 : decode cX19_handle 242 = .ok (.iload_n 2, 1) := by decide +kernel
theorem dX19_handle_243 : decode cX19_handle 243 = .ok (.bipush 13, 2) := by decide +kernel
theorem dX19_handle_245 : decode cX19_handle 245 = .ok (.invokevirtual 18, 3) := by decide +kernel
theorem dX19_handle_248 : decode cX19_handle 248 = .ok (.ldc_w 451, 3) := by decide +kernel
theorem dX19_handle_251 : decode cX19_handle 251 = .ok (.iand, 1) := by decide +kernel
theorem dX19_handle_252 : decode cX19_handle 252 = .ok (.if_icmp .ne 12, 3) := by decide +kernel
theorem dX19_handle_255 : decode cX19_handle 255 = .ok (.aload 4, 2) := by decide +kernel
theorem dX19_handle_257 : decode cX19_handle 257 = .ok (.getfield 452, 3) := by decide +kernel
theorem dX19_handle_260 : decode cX19_handle 260 = .ok (.iload 5, 2) := by decide +kernel
theorem dX19_handle_262 : decode cX19_handle 262 = .ok (.iconst 0, 1) := by decide +kernel
theorem dX19_handle_263 : decode cX19_handle 263 = .ok (.bastore, 1) := by decide +kernel
theorem dX19_handle_264 : decode cX19_handle 264 = .ok (.return_, 1) := by decide +kernel
theorem dX19_neighbour_0 : decode cX19_neighbour 0 = .ok (.iconst 0, 1) := by decide +kernel
theorem dX19_neighbour_1 : decode cX19_neighbour 1 = .ok (.istore_n 3, 1) := by decide +kernel
theorem dX19_neighbour_2 : decode cX19_neighbour 2 = .ok (.iload_n 3, 1) := by decide +kernel
theorem dX19_neighbour_3 : decode cX19_neighbour 3 = .ok (.aload_n 0, 1) := by decide +kernel
theorem dX19_neighbour_4 : decode cX19_neighbour 4 = .ok (.getfield 457, 3) := by decide +kernel
theorem dX19_neighbour_7 : decode cX19_neighbour 7 = .ok (.if_icmp .ge 42, 3) := by decide +kernel
theorem dX19_neighbour_10 : decode cX19_neighbour 10 = .ok (.aload_n 0, 1) := by decide +kernel
theorem dX19_neighbour_11 : decode cX19_neighbour 11 = .ok (.getfield 460, 3) := by decide +kernel
theorem dX19_neighbour_14 : decode cX19_neighbour 14 = .ok (.iload_n 3, 1) := by decide +kernel
theorem dX19_neighbour_15 : decode cX19_neighbour 15 = .ok (.aaload, 1) := by decide +kernel
theorem dX19_neighbour_16 : decode cX19_neighbour 16 = .ok (.getfield 464, 3) := by decide +kernel
theorem dX19_neighbour_19 : decode cX19_neighbour 19 = .ok (.iload_n 1, 1) := by decide +kernel
theorem dX19_neighbour_20 : decode cX19_neighbour 20 = .ok (.if_icmp .ne 23, 3) := by decide +kernel
theorem dX19_neighbour_23 : decode cX19_neighbour 23 = .ok (.aload_n 0, 1) := by decide +kernel
theorem dX19_neighbour_24 : decode cX19_neighbour 24 = .ok (.getfield 460, 3) := by decide +kernel
theorem dX19_neighbour_27 : decode cX19_neighbour 27 = .ok (.iload_n 3, 1) := by decide +kernel
theorem dX19_neighbour_28 : decode cX19_neighbour 28 = .ok (.aaload, 1) := by decide +kernel
theorem dX19_neighbour_29 : decode cX19_neighbour 29 = .ok (.getfield 467, 3) := by decide +kernel
theorem dX19_neighbour_32 : decode cX19_neighbour 32 = .ok (.iload_n 2, 1) := by decide +kernel
theorem dX19_neighbour_33 : decode cX19_neighbour 33 = .ok (.if_icmp .ne 10, 3) := by decide +kernel
theorem dX19_neighbour_36 : decode cX19_neighbour 36 = .ok (.aload_n 0, 1) := by decide +kernel
theorem dX19_neighbour_37 : decode cX19_neighbour 37 = .ok (.getfield 460, 3) := by decide +kernel
theorem dX19_neighbour_40 : decode cX19_neighbour 40 = .ok (.iload_n 3, 1) := by decide +kernel
theorem dX19_neighbour_41 : decode cX19_neighbour 41 = .ok (.aaload, 1) := by decide +kernel
theorem dX19_neighbour_42 : decode cX19_neighbour 42 = .ok (.areturn, 1) := by decide +kernel
theorem dX19_neighbour_43 : decode cX19_neighbour 43 = .ok (.iinc 3 1, 3) := by decide +kernel
theorem dX19_neighbour_46 : decode cX19_neighbour 46 = .ok (.goto (-44), 3) := by decide +kernel
theorem dX19_neighbour_49 : decode cX19_neighbour 49 = .ok (.aconst_null, 1) := by decide +kernel
theorem dX19_neighbour_50 : decode cX19_neighbour 50 = .ok (.areturn, 1) := by decide +kernel
theorem dX19_friend_0 : decode cX19_friend 0 = .ok (.aload_n 0, 1) := by decide +kernel
theorem dX19_friend_1 : decode cX19_friend 1 = .ok (.iload_n 1, 1) := by decide +kernel
theorem dX19_friend_2 : decode cX19_friend 2 = .ok (.iload_n 2, 1) := by decide +kernel
theorem dX19_friend_3 : decode cX19_friend 3 = .ok (.invokestatic 470, 3) := by decide +kernel
theorem dX19_friend_6 : decode cX19_friend 6 = .ok (.astore_n 3, 1) := by decide +kernel
theorem dX19_friend_7 : decode cX19_friend 7 = .ok (.aload_n 3, 1) := by decide +kernel
theorem dX19_friend_8 : decode cX19_friend 8 = .ok (.ifnull 14, 3) := by decide +kernel
theorem dX19_friend_11 : decode cX19_friend 11 = .ok (.aload_n 3, 1) := by decide +kernel
theorem dX19_friend_12 : decode cX19_friend 12 = .ok (.getfield 473, 3) := by decide +kernel
theorem dX19_friend_15 : decode cX19_friend 15 = .ok (.ifCond .eq 7, 3) := by decide +kernel
theorem dX19_friend_18 : decode cX19_friend 18 = .ok (.aload_n 3, 1) := by decide +kernel
theorem dX19_friend_19 : decode cX19_friend 19 = .ok (.goto 4, 3) := by decide +kernel
theorem dX19_friend_22 : decode cX19_friend 22 = .ok (.aconst_null, 1) := by decide +kernel
theorem dX19_friend_23 : decode cX19_friend 23 = .ok (.areturn, 1) := by decide +kernel
theorem dX19_newNeighbour_0 : decode cX19_newNeighbour 0 = .ok (.aload_n 1, 1) := by decide +kernel
theorem dX19_newNeighbour_1 : decode cX19_newNeighbour 1 = .ok (.getfield 460, 3) := by decide +kernel
theorem dX19_newNeighbour_4 : decode cX19_newNeighbour 4 = .ok (.aload_n 1, 1) := by decide +kernel
theorem dX19_newNeighbour_5 : decode cX19_newNeighbour 5 = .ok (.getfield 457, 3) := by decide +kernel
theorem dX19_newNeighbour_8 : decode cX19_newNeighbour 8 = .ok (.aaload, 1) := by decide +kernel
theorem dX19_newNeighbour_9 : decode cX19_newNeighbour 9 = .ok (.astore 4, 2) := by decide +kernel
theorem dX19_newNeighbour_11 : decode cX19_newNeighbour 11 = .ok (.aload_n 1, 1) := by decide +kernel
theorem dX19_newNeighbour_12 : decode cX19_newNeighbour 12 = .ok (.getfield 457, 3) := by decide +kernel
theorem dX19_newNeighbour_15 : decode cX19_newNeighbour 15 = .ok (.istore 5, 2) := by decide +kernel
theorem dX19_newNeighbour_17 : decode cX19_newNeighbour 17 = .ok (.iload 5, 2) := by decide +kernel
theorem dX19_newNeighbour_19 : decode cX19_newNeighbour 19 = .ok (.ifCond .le 73, 3) := by decide +kernel
theorem dX19_newNeighbour_22 : decode cX19_newNeighbour 22 = .ok (.aload_n 1, 1) := by decide +kernel
theorem dX19_newNeighbour_23 : decode cX19_newNeighbour 23 = .ok (.getfield 460, 3) := by decide +kernel
theorem dX19_newNeighbour_26 : decode cX19_newNeighbour 26 = .ok (.iload 5, 2) := by decide +kernel
theorem dX19_newNeighbour_28 : decode cX19_newNeighbour 28 = .ok (.iconst 1, 1) := by decide +kernel
theorem dX19_newNeighbour_29 : decode cX19_newNeighbour 29 = .ok (.isub, 1) := by decide +kernel
theorem dX19_newNeighbour_30 : decode cX19_newNeighbour 30 = .ok (.aaload, 1) := by decide +kernel
theorem dX19_newNeighbour_31 : decode cX19_newNeighbour 31 = .ok (.getfield 464, 3) := by decide +kernel
theorem dX19_newNeighbour_34 : decode cX19_newNeighbour 34 = .ok (.iload_n 2, 1) := by decide +kernel
theorem dX19_newNeighbour_35 : decode cX19_newNeighbour 35 = .ok (.if_icmp .gt 35, 3) := by decide +kernel
theorem dX19_newNeighbour_38 : decode cX19_newNeighbour 38 = .ok (.aload_n 1, 1) := by decide +kernel
theorem dX19_newNeighbour_39 : decode cX19_newNeighbour 39 = .ok (.getfield 460, 3) := by decide +kernel
theorem dX19_newNeighbour_42 : decode cX19_newNeighbour 42 = .ok (.iload 5, 2) := by decide +kernel
theorem dX19_newNeighbour_44 : decode cX19_newNeighbour 44 = .ok (.iconst 1, 1) := by decide +kernel
theorem dX19_newNeighbour_45 : decode cX19_newNeighbour 45 = .ok (.isub, 1) := by decide +kernel
theorem dX19_newNeighbour_46 : decode cX19_newNeighbour 46 = .ok (.aaload, 1) := by decide +kernel
theorem dX19_newNeighbour_47 : decode cX19_newNeighbour 47 = .ok (.getfield 464, 3) := by decide +kernel
theorem dX19_newNeighbour_50 : decode cX19_newNeighbour 50 = .ok (.iload_n 2, 1) := by decide +kernel
theorem dX19_newNeighbour_51 : decode cX19_newNeighbour 51 = .ok (.if_icmp .ne 41, 3) := by decide +kernel
theorem dX19_newNeighbour_54 : decode cX19_newNeighbour 54 = .ok (.aload_n 1, 1) := by decide +kernel
theorem dX19_newNeighbour_55 : decode cX19_newNeighbour 55 = .ok (.getfield 460, 3) := by decide +kernel
theorem dX19_newNeighbour_58 : decode cX19_newNeighbour 58 = .ok (.iload 5, 2) := by decide +kernel
theorem dX19_newNeighbour_60 : decode cX19_newNeighbour 60 = .ok (.iconst 1, 1) := by decide +kernel
theorem dX19_newNeighbour_61 : decode cX19_newNeighbour 61 = .ok (.isub, 1) := by decide +kernel
theorem dX19_newNeighbour_62 : decode cX19_newNeighbour 62 = .ok (.aaload, 1) := by decide +kernel
theorem dX19_newNeighbour_63 : decode cX19_newNeighbour 63 = .ok (.getfield 467, 3) := by decide +kernel
theorem dX19_newNeighbour_66 : decode cX19_newNeighbour 66 = .ok (.iload_n 3, 1) := by decide +kernel
theorem dX19_newNeighbour_67 : decode cX19_newNeighbour 67 = .ok (.if_icmp .le 25, 3) := by decide +kernel
theorem dX19_newNeighbour_70 : decode cX19_newNeighbour 70 = .ok (.aload_n 1, 1) := by decide +kernel
theorem dX19_newNeighbour_71 : decode cX19_newNeighbour 71 = .ok (.getfield 460, 3) := by decide +kernel
theorem dX19_newNeighbour_74 : decode cX19_newNeighbour 74 = .ok (.iload 5, 2) := by decide +kernel
theorem dX19_newNeighbour_76 : decode cX19_newNeighbour 76 = .ok (.aload_n 1, 1) := by decide +kernel
theorem dX19_newNeighbour_77 : decode cX19_newNeighbour 77 = .ok (.getfield 460, 3) := by decide +kernel
theorem dX19_newNeighbour_80 : decode cX19_newNeighbour 80 = .ok (.iload 5, 2) := by decide +kernel
theorem dX19_newNeighbour_82 : decode cX19_newNeighbour 82 = .ok (.iconst 1, 1) := by decide +kernel
theorem dX19_newNeighbour_83 : decode cX19_newNeighbour 83 = .ok (.isub, 1) := by decide +kernel
theorem dX19_newNeighbour_84 : decode cX19_newNeighbour 84 = .ok (.aaload, 1) := by decide +kernel
theorem dX19_newNeighbour_85 : decode cX19_newNeighbour 85 = .ok (.aastore, 1) := by decide +kernel
theorem dX19_newNeighbour_86 : decode cX19_newNeighbour 86 = .ok (.iinc 5 (-1), 3) := by decide +kernel
theorem dX19_newNeighbour_89 : decode cX19_newNeighbour 89 = .ok (.goto (-72), 3) := by decide +kernel
theorem dX19_newNeighbour_92 : decode cX19_newNeighbour 92 = .ok (.aload_n 1, 1) := by decide +kernel
theorem dX19_newNeighbour_93 : decode cX19_newNeighbour 93 = .ok (.getfield 460, 3) := by decide +kernel
theorem dX19_newNeighbour_96 : decode cX19_newNeighbour 96 = .ok (.iload 5, 2) := by decide +kernel
theorem dX19_newNeighbour_98 : decode cX19_newNeighbour 98 = .ok (.aload 4, 2) := by decide +kernel
theorem dX19_newNeighbour_100 : decode cX19_newNeighbour 100 = .ok (.aastore, 1) := by decide +kernel
theorem dX19_newNeighbour_101 : decode cX19_newNeighbour 101 = .ok (.aload_n 1, 1) := by decide +kernel
theorem dX19_newNeighbour_102 : decode cX19_newNeighbour 102 = .ok (.dup, 1) := by decide +kernel
theorem dX19_newNeighbour_103 : decode cX19_newNeighbour 103 = .ok (.getfield 457, 3) := by decide +kernel
theorem dX19_newNeighbour_106 : decode cX19_newNeighbour 106 = .ok (.iconst 1, 1) := by decide +kernel
theorem dX19_newNeighbour_107 : decode cX19_newNeighbour 107 = .ok (.iadd, 1) := by decide +kernel
theorem dX19_newNeighbour_108 : decode cX19_newNeighbour 108 = .ok (.putfield 457, 3) := by decide +kernel
theorem dX19_newNeighbour_111 : decode cX19_newNeighbour 111 = .ok (.aload 4, 2) := by decide +kernel
theorem dX19_newNeighbour_113 : decode cX19_newNeighbour 113 = .ok (.iload_n 2, 1) := by decide +kernel
theorem dX19_newNeighbour_114 : decode cX19_newNeighbour 114 = .ok (.putfield 464, 3) := by decide +kernel
theorem dX19_newNeighbour_117 : decode cX19_newNeighbour 117 = .ok (.aload 4, 2) := by decide +kernel
theorem dX19_newNeighbour_119 : decode cX19_newNeighbour 119 = .ok (.iload_n 3, 1) := by decide +kernel
theorem dX19_newNeighbour_120 : decode cX19_newNeighbour 120 = .ok (.putfield 467, 3) := by decide +kernel
theorem dX19_newNeighbour_123 : decode cX19_newNeighbour 123 = .ok (.aload 4, 2) := by decide +kernel
theorem dX19_newNeighbour_125 : decode cX19_newNeighbour 125 = .ok (.iconst 0, 1) := by decide +kernel
theorem dX19_newNeighbour_126 : decode cX19_newNeighbour 126 = .ok (.putfield 473, 3) := by decide +kernel
theorem dX19_newNeighbour_129 : decode cX19_newNeighbour 129 = .ok (.iconst 0, 1) := by decide +kernel
theorem dX19_newNeighbour_130 : decode cX19_newNeighbour 130 = .ok (.istore 6, 2) := by decide +kernel
theorem dX19_newNeighbour_132 : decode cX19_newNeighbour 132 = .ok (.iload 6, 2) := by decide +kernel
theorem dX19_newNeighbour_134 : decode cX19_newNeighbour 134 = .ok (.bipush 16, 2) := by decide +kernel
theorem dX19_newNeighbour_136 : decode cX19_newNeighbour 136 = .ok (.if_icmp .ge 27, 3) := by decide +kernel
theorem dX19_newNeighbour_139 : decode cX19_newNeighbour 139 = .ok (.aload 4, 2) := by decide +kernel
theorem dX19_newNeighbour_141 : decode cX19_newNeighbour 141 = .ok (.getfield 452, 3) := by decide +kernel
theorem dX19_newNeighbour_144 : decode cX19_newNeighbour 144 = .ok (.iload 6, 2) := by decide +kernel
theorem dX19_newNeighbour_146 : decode cX19_newNeighbour 146 = .ok (.iconst 0, 1) := by decide +kernel
theorem dX19_newNeighbour_147 : decode cX19_newNeighbour 147 = .ok (.bastore, 1) := by decide +kernel
theorem dX19_newNeighbour_148 : decode cX19_newNeighbour 148 = .ok (.aload 4, 2) := by decide +kernel
theorem dX19_newNeighbour_150 : decode cX19_newNeighbour 150 = .ok (.getfield 476, 3) := by decide +kernel
theorem dX19_newNeighbour_153 : decode cX19_newNeighbour 153 = .ok (.iload 6, 2) := by decide +kernel
theorem dX19_newNeighbour_155 : decode cX19_newNeighbour 155 = .ok (.iconst 0, 1) := by decide +kernel
theorem dX19_newNeighbour_156 : decode cX19_newNeighbour 156 = .ok (.iastore, 1) := by decide +kernel
theorem dX19_newNeighbour_157 : decode cX19_newNeighbour 157 = .ok (.iinc 6 1, 3) := by decide +kernel
theorem dX19_newNeighbour_160 : decode cX19_newNeighbour 160 = .ok (.goto (-28), 3) := by decide +kernel
theorem dX19_newNeighbour_163 : decode cX19_newNeighbour 163 = .ok (.aload 4, 2) := by decide +kernel
theorem dX19_newNeighbour_165 : decode cX19_newNeighbour 165 = .ok (.areturn, 1) := by decide +kernel
theorem dX19_greeted_0 : decode cX19_greeted 0 = .ok (.aload_n 1, 1) := by decide +kernel
theorem dX19_greeted_1 : decode cX19_greeted 1 = .ok (.getfield 276, 3) := by decide +kernel
theorem dX19_greeted_4 : decode cX19_greeted 4 = .ok (.iload_n 2, 1) := by decide +kernel
theorem dX19_greeted_5 : decode cX19_greeted 5 = .ok (.aaload, 1) := by decide +kernel
theorem dX19_greeted_6 : decode cX19_greeted 6 = .ok (.getfield 479, 3) := by decide +kernel
theorem dX19_greeted_9 : decode cX19_greeted 9 = .ok (.ifCond .ne 4, 3) := by decide +kernel
theorem dX19_greeted_12 : decode cX19_greeted 12 = .ok (.return_, 1) := by decide +kernel
theorem dX19_greeted_13 : decode cX19_greeted 13 = .ok (.aload_n 1, 1) := by decide +kernel
theorem dX19_greeted_14 : decode cX19_greeted 14 = .ok (.iload_n 2, 1) := by decide +kernel
theorem dX19_greeted_15 : decode cX19_greeted 15 = .ok (.iload_n 3, 1) := by decide +kernel
theorem dX19_greeted_16 : decode cX19_greeted 16 = .ok (.invokestatic 470, 3) := by decide +kernel
theorem dX19_greeted_19 : decode cX19_greeted 19 = .ok (.astore 5, 2) := by decide +kernel
theorem dX19_greeted_21 : decode cX19_greeted 21 = .ok (.aload 5, 2) := by decide +kernel
theorem dX19_greeted_23 : decode cX19_greeted 23 = .ok (.ifnonnull 26, 3) := by decide +kernel
theorem dX19_greeted_26 : decode cX19_greeted 26 = .ok (.aload_n 1, 1) := by decide +kernel
theorem dX19_greeted_27 : decode cX19_greeted 27 = .ok (.getfield 457, 3) := by decide +kernel
theorem dX19_greeted_30 : decode cX19_greeted 30 = .ok (.bipush 16, 2) := by decide +kernel
theorem dX19_greeted_32 : decode cX19_greeted 32 = .ok (.if_icmp .ne 8, 3) := by decide +kernel
theorem dX19_greeted_35 : decode cX19_greeted 35 = .ok (.aload_n 0, 1) := by decide +kernel
theorem dX19_greeted_36 : decode cX19_greeted 36 = .ok (.invokevirtual 168, 3) := by decide +kernel
theorem dX19_greeted_39 : decode cX19_greeted 39 = .ok (.return_, 1) := by decide +kernel
theorem dX19_greeted_40 : decode cX19_greeted 40 = .ok (.aload_n 0, 1) := by decide +kernel
theorem dX19_greeted_41 : decode cX19_greeted 41 = .ok (.aload_n 1, 1) := by decide +kernel
theorem dX19_greeted_42 : decode cX19_greeted 42 = .ok (.iload_n 2, 1) := by decide +kernel
theorem dX19_greeted_43 : decode cX19_greeted 43 = .ok (.iload_n 3, 1) := by decide +kernel
theorem dX19_greeted_44 : decode cX19_greeted 44 = .ok (.invokevirtual 480, 3) := by decide +kernel
theorem dX19_greeted_47 : decode cX19_greeted 47 = .ok (.astore 5, 2) := by decide +kernel
theorem dX19_greeted_49 : decode cX19_greeted 49 = .ok (.aload 5, 2) := by decide +kernel
theorem dX19_greeted_51 : decode cX19_greeted 51 = .ok (.getfield 473, 3) := by decide +kernel
theorem dX19_greeted_54 : decode cX19_greeted 54 = .ok (.istore 6, 2) := by decide +kernel
theorem dX19_greeted_56 : decode cX19_greeted 56 = .ok (.aload 5, 2) := by decide +kernel
theorem dX19_greeted_58 : decode cX19_greeted 58 = .ok (.aload_n 0, 1) := by decide +kernel
theorem dX19_greeted_59 : decode cX19_greeted 59 = .ok (.getfield 143, 3) := by decide +kernel
theorem dX19_greeted_62 : decode cX19_greeted 62 = .ok (.putfield 483, 3) := by decide +kernel
theorem dX19_greeted_65 : decode cX19_greeted 65 = .ok (.aload 5, 2) := by decide +kernel
theorem dX19_greeted_67 : decode cX19_greeted 67 = .ok (.iload 4, 2) := by decide +kernel
theorem dX19_greeted_69 : decode cX19_greeted 69 = .ok (.aload_n 1, 1) := by decide +kernel
theorem dX19_greeted_70 : decode cX19_greeted 70 = .ok (.getfield 310, 3) := by decide +kernel
theorem dX19_greeted_73 : decode cX19_greeted 73 = .ok (.ishr, 1) := by decide +kernel
theorem dX19_greeted_74 : decode cX19_greeted 74 = .ok (.iconst 1, 1) := by decide +kernel
theorem dX19_greeted_75 : decode cX19_greeted 75 = .ok (.iand, 1) := by decide +kernel
theorem dX19_greeted_76 : decode cX19_greeted 76 = .ok (.iconst 1, 1) := by decide +kernel
theorem dX19_greeted_77 : decode cX19_greeted 77 = .ok (.if_icmp .ne 7, 3) := by decide +kernel
theorem dX19_greeted_80 : decode cX19_greeted 80 = .ok (.iconst 1, 1) := by decide +kernel
theorem dX19_greeted_81 : decode cX19_greeted 81 = .ok (.goto 4, 3) := by decide +kernel
theorem dX19_greeted_84 : decode cX19_greeted 84 = .ok (.iconst 0, 1) := by decide +kernel
theorem dX19_greeted_85 : decode cX19_greeted 85 = .ok (.putfield 473, 3) := by decide +kernel
theorem dX19_greeted_88 : decode cX19_greeted 88 = .ok (.aload_n 1, 1) := by decide +kernel
theorem dX19_greeted_89 : decode cX19_greeted 89 = .ok (.aload_n 1, 1) := by decide +kernel
theorem dX19_greeted_90 : decode cX19_greeted 90 = .ok (.getfield 486, 3) := by decide +kernel
theorem dX19_greeted_93 : decode cX19_greeted 93 = .ok (.ifCond .ne 13, 3) := by decide +kernel
theorem dX19_greeted_96 : decode cX19_greeted 96 = .ok (.iload 6, 2) := by decide +kernel
theorem dX19_greeted_98 : decode cX19_greeted 98 = .ok (.aload 5, 2) := by decide +kernel
theorem dX19_greeted_100 : decode cX19_greeted 100 = .ok (.getfield 473, 3) := by decide +kernel
theorem dX19_greeted_103 : decode cX19_greeted 103 = .ok (.if_icmp .eq 7, 3) := by decide +kernel
theorem dX19_greeted_106 : decode cX19_greeted 106 = .ok (.iconst 1, 1) := by decide +kernel
theorem dX19_greeted_107 : decode cX19_greeted 107 = .ok (.goto 4, 3) := by decide +kernel
theorem dX19_greeted_110 : decode cX19_greeted 110 = .ok (.iconst 0, 1) := by decide +kernel
theorem dX19_greeted_111 : decode cX19_greeted 111 = .ok (.putfield 486, 3) := by decide +kernel
theorem dX19_greeted_114 : decode cX19_greeted 114 = .ok (.iconst 0, 1) := by decide +kernel
theorem dX19_greeted_115 : decode cX19_greeted 115 = .ok (.istore 7, 2) := by decide +kernel
theorem dX19_greeted_117 : decode cX19_greeted 117 = .ok (.iload 7, 2) := by decide +kernel
theorem dX19_greeted_119 : decode cX19_greeted 119 = .ok (.bipush 16, 2) := by decide +kernel
theorem dX19_greeted_121 : decode cX19_greeted 121 = .ok (.if_icmp .ge 63, 3) := by decide +kernel
theorem dX19_greeted_124 : decode cX19_greeted 124 = .ok (.iload 6, 2) := by decide +kernel
theorem dX19_greeted_126 : decode cX19_greeted 126 = .ok (.aload 5, 2) := by decide +kernel
theorem dX19_greeted_128 : decode cX19_greeted 128 = .ok (.getfield 473, 3) := by decide +kernel
theorem dX19_greeted_131 : decode cX19_greeted 131 = .ok (.if_icmp .eq 53, 3) := by decide +kernel
theorem dX19_greeted_134 : decode cX19_greeted 134 = .ok (.aload 5, 2) := by decide +kernel
theorem dX19_greeted_136 : decode cX19_greeted 136 = .ok (.getfield 452, 3) := by decide +kernel
theorem dX19_greeted_139 : decode cX19_greeted 139 = .ok (.iload 7, 2) := by decide +kernel
theorem dX19_greeted_141 : decode cX19_greeted 141 = .ok (.aload 5, 2) := by decide +kernel
theorem dX19_greeted_143 : decode cX19_greeted 143 = .ok (.getfield 473, 3) := by decide +kernel
theorem dX19_greeted_146 : decode cX19_greeted 146 = .ok (.ifCond .eq 18, 3) := by decide +kernel
theorem dX19_greeted_149 : decode cX19_greeted 149 = .ok (.aload_n 1, 1) := by decide +kernel
theorem dX19_greeted_150 : decode cX19_greeted 150 = .ok (.getfield 448, 3) := by decide +kernel
theorem dX19_greeted_153 : decode cX19_greeted 153 = .ok (.iload 7, 2) := by decide +kernel
theorem dX19_greeted_155 : decode cX19_greeted 155 = .ok (.iaload, 1) := by decide +kernel
theorem dX19_greeted_156 : decode cX19_greeted 156 = .ok (.iconst (-1), 1) := by decide +kernel
theorem dX19_greeted_157 : decode cX19_greeted 157 = .ok (.if_icmp .eq 7, 3) := by decide +kernel
theorem dX19_greeted_160 : decode cX19_greeted 160 = .ok (.iconst 1, 1) := by decide +kernel
theorem dX19_greeted_161 : decode cX19_greeted 161 = .ok (.goto 4, 3) := by decide +kernel
theorem dX19_greeted_164 : decode cX19_greeted 164 = .ok (.iconst 0, 1) := by decide +kernel
theorem dX19_greeted_165 : decode cX19_greeted 165 = .ok (.bastore, 1) := by decide +kernel
theorem dX19_greeted_166 : decode cX19_greeted 166 = .ok (.aload 5, 2) := by decide +kernel
theorem dX19_greeted_168 : decode cX19_greeted 168 = .ok (.getfield 476, 3) := by decide +kernel
theorem dX19_greeted_171 : decode cX19_greeted 171 = .ok (.iload 7, 2) := by decide +kernel
theorem dX19_greeted_173 : decode cX19_greeted 173 = .ok (.aload_n 0, 1) := by decide +kernel
theorem dX19_greeted_174 : decode cX19_greeted 174 = .ok (.getfield 143, 3) := by decide +kernel
theorem dX19_greeted_177 : decode cX19_greeted 177 = .ok (.iastore, 1) := by decide +kernel
theorem dX19_greeted_178 : decode cX19_greeted 178 = .ok (.iinc 7 1, 3) := by decide +kernel
theorem dX19_greeted_181 : decode cX19_greeted 181 = .ok (.goto (-64), 3) := by decide +kernel
theorem dX19_greeted_184 : decode cX19_greeted 184 = .ok (.return_, 1) := by decide +kernel
theorem dX19_neighbours_0 : decode cX19_neighbours 0 = .ok (.iconst 0, 1) := by decide +kernel
theorem dX19_neighbours_1 : decode cX19_neighbours 1 = .ok (.istore_n 2, 1) := by decide +kernel
theorem dX19_neighbours_2 : decode cX19_neighbours 2 = .ok (.iload_n 2, 1) := by decide +kernel
theorem dX19_neighbours_3 : decode cX19_neighbours 3 = .ok (.aload_n 0, 1) := by decide +kernel
theorem dX19_neighbours_4 : decode cX19_neighbours 4 = .ok (.getfield 273, 3) := by decide +kernel
theorem dX19_neighbours_7 : decode cX19_neighbours 7 = .ok (.if_icmp .ge 87, 3) := by decide +kernel
theorem dX19_neighbours_10 : decode cX19_neighbours 10 = .ok (.aload_n 0, 1) := by decide +kernel
theorem dX19_neighbours_11 : decode cX19_neighbours 11 = .ok (.getfield 276, 3) := by decide +kernel
theorem dX19_neighbours_14 : decode cX19_neighbours 14 = .ok (.iload_n 2, 1) := by decide +kernel
theorem dX19_neighbours_15 : decode cX19_neighbours 15 = .ok (.aaload, 1) := by decide +kernel
theorem dX19_neighbours_16 : decode cX19_neighbours 16 = .ok (.astore_n 3, 1) := by decide +kernel
theorem dX19_neighbours_17 : decode cX19_neighbours 17 = .ok (.aload_n 0, 1) := by decide +kernel
theorem dX19_neighbours_18 : decode cX19_neighbours 18 = .ok (.aload_n 0, 1) := by decide +kernel
theorem dX19_neighbours_19 : decode cX19_neighbours 19 = .ok (.getfield 486, 3) := by decide +kernel
theorem dX19_neighbours_22 : decode cX19_neighbours 22 = .ok (.ifCond .ne 17, 3) := by decide +kernel
theorem dX19_neighbours_25 : decode cX19_neighbours 25 = .ok (.aload_n 3, 1) := by decide +kernel
theorem dX19_neighbours_26 : decode cX19_neighbours 26 = .ok (.getfield 479, 3) := by decide +kernel
theorem dX19_neighbours_29 : decode cX19_neighbours 29 = .ok (.aload_n 3, 1) := by decide +kernel
theorem dX19_neighbours_30 : decode cX19_neighbours 30 = .ok (.getfield 149, 3) := by decide +kernel
theorem dX19_neighbours_33 : decode cX19_neighbours 33 = .ok (.getfield 158, 3) := by decide +kernel
theorem dX19_neighbours_36 : decode cX19_neighbours 36 = .ok (.if_icmp .eq 7, 3) := by decide +kernel
theorem dX19_neighbours_39 : decode cX19_neighbours 39 = .ok (.iconst 1, 1) := by decide +kernel
theorem dX19_neighbours_40 : decode cX19_neighbours 40 = .ok (.goto 4, 3) := by decide +kernel
theorem dX19_neighbours_43 : decode cX19_neighbours 43 = .ok (.iconst 0, 1) := by decide +kernel
theorem dX19_neighbours_44 : decode cX19_neighbours 44 = .ok (.putfield 486, 3) := by decide +kernel
theorem dX19_neighbours_47 : decode cX19_neighbours 47 = .ok (.aload_n 0, 1) := by decide +kernel
theorem dX19_neighbours_48 : decode cX19_neighbours 48 = .ok (.aload_n 0, 1) := by decide +kernel
theorem dX19_neighbours_49 : decode cX19_neighbours 49 = .ok (.getfield 489, 3) := by decide +kernel
theorem dX19_neighbours_52 : decode cX19_neighbours 52 = .ok (.ifCond .ne 17, 3) := by decide +kernel
theorem dX19_neighbours_55 : decode cX19_neighbours 55 = .ok (.aload_n 3, 1) := by decide +kernel
theorem dX19_neighbours_56 : decode cX19_neighbours 56 = .ok (.getfield 479, 3) := by decide +kernel
theorem dX19_neighbours_59 : decode cX19_neighbours 59 = .ok (.aload_n 3, 1) := by decide +kernel
theorem dX19_neighbours_60 : decode cX19_neighbours 60 = .ok (.getfield 149, 3) := by decide +kernel
theorem dX19_neighbours_63 : decode cX19_neighbours 63 = .ok (.getfield 158, 3) := by decide +kernel
theorem dX19_neighbours_66 : decode cX19_neighbours 66 = .ok (.if_icmp .eq 7, 3) := by decide +kernel
theorem dX19_neighbours_69 : decode cX19_neighbours 69 = .ok (.iconst 1, 1) := by decide +kernel
theorem dX19_neighbours_70 : decode cX19_neighbours 70 = .ok (.goto 4, 3) := by decide +kernel
theorem dX19_neighbours_73 : decode cX19_neighbours 73 = .ok (.iconst 0, 1) := by decide +kernel
theorem dX19_neighbours_74 : decode cX19_neighbours 74 = .ok (.putfield 489, 3) := by decide +kernel
theorem dX19_neighbours_77 : decode cX19_neighbours 77 = .ok (.aload_n 3, 1) := by decide +kernel
theorem dX19_neighbours_78 : decode cX19_neighbours 78 = .ok (.aload_n 3, 1) := by decide +kernel
theorem dX19_neighbours_79 : decode cX19_neighbours 79 = .ok (.getfield 149, 3) := by decide +kernel
theorem dX19_neighbours_82 : decode cX19_neighbours 82 = .ok (.getfield 158, 3) := by decide +kernel
theorem dX19_neighbours_85 : decode cX19_neighbours 85 = .ok (.putfield 479, 3) := by decide +kernel
theorem dX19_neighbours_88 : decode cX19_neighbours 88 = .ok (.iinc 2 1, 3) := by decide +kernel
theorem dX19_neighbours_91 : decode cX19_neighbours 91 = .ok (.goto (-89), 3) := by decide +kernel
theorem dX19_neighbours_94 : decode cX19_neighbours 94 = .ok (.iconst 0, 1) := by decide +kernel
theorem dX19_neighbours_95 : decode cX19_neighbours 95 = .ok (.istore_n 2, 1) := by decide +kernel
theorem dX19_neighbours_96 : decode cX19_neighbours 96 = .ok (.iload_n 2, 1) := by decide +kernel
theorem dX19_neighbours_97 : decode cX19_neighbours 97 = .ok (.aload_n 0, 1) := by decide +kernel
theorem dX19_neighbours_98 : decode cX19_neighbours 98 = .ok (.getfield 457, 3) := by decide +kernel
theorem dX19_neighbours_101 : decode cX19_neighbours 101 = .ok (.if_icmp .ge 104, 3) := by decide +kernel
theorem dX19_neighbours_104 : decode cX19_neighbours 104 = .ok (.aload_n 0, 1) := by decide +kernel
theorem dX19_neighbours_105 : decode cX19_neighbours 105 = .ok (.getfield 460, 3) := by decide +kernel
theorem dX19_neighbours_108 : decode cX19_neighbours 108 = .ok (.iload_n 2, 1) := by decide +kernel
theorem dX19_neighbours_109 : decode cX19_neighbours 109 = .ok (.aaload, 1) := by decide +kernel
theorem dX19_neighbours_110 : decode cX19_neighbours 110 = .ok (.astore_n 3, 1) := by decide +kernel
theorem dX19_neighbours_111 : decode cX19_neighbours 111 = .ok (.aload_n 0, 1) := by decide +kernel
theorem dX19_neighbours_112 : decode cX19_neighbours 112 = .ok (.getfield 276, 3) := by decide +kernel
theorem dX19_neighbours_115 : decode cX19_neighbours 115 = .ok (.aload_n 3, 1) := by decide +kernel
theorem dX19_neighbours_116 : decode cX19_neighbours 116 = .ok (.getfield 464, 3) := by decide +kernel
theorem dX19_neighbours_119 : decode cX19_neighbours 119 = .ok (.aaload, 1) := by decide +kernel
theorem dX19_neighbours_120 : decode cX19_neighbours 120 = .ok (.getfield 479, 3) := by decide +kernel
theorem dX19_neighbours_123 : decode cX19_neighbours 123 = .ok (.ifCond .eq 14, 3) := by decide +kernel
theorem dX19_neighbours_126 : decode cX19_neighbours 126 = .ok (.iload_n 1, 1) := by decide +kernel
theorem dX19_neighbours_127 : decode cX19_neighbours 127 = .ok (.aload_n 3, 1) := by decide +kernel
theorem dX19_neighbours_128 : decode cX19_neighbours 128 = .ok (.getfield 483, 3) := by decide +kernel
theorem dX19_neighbours_131 : decode cX19_neighbours 131 = .ok (.isub, 1) := by decide +kernel
theorem dX19_neighbours_132 : decode cX19_neighbours 132 = .ok (.bipush 80, 2) := by decide +kernel
theorem dX19_neighbours_134 : decode cX19_neighbours 134 = .ok (.if_icmp .lt 65, 3) := by decide +kernel
theorem dX19_neighbours_137 : decode cX19_neighbours 137 = .ok (.aload_n 0, 1) := by decide +kernel
theorem dX19_neighbours_138 : decode cX19_neighbours 138 = .ok (.dup, 1) := by decide +kernel
theorem dX19_neighbours_139 : decode cX19_neighbours 139 = .ok (.getfield 457, 3) := by decide +kernel
theorem dX19_neighbours_142 : decode cX19_neighbours 142 = .ok (.iconst 1, 1) := by decide +kernel
theorem dX19_neighbours_143 : decode cX19_neighbours 143 = .ok (.isub, 1) := by decide +kernel
theorem dX19_neighbours_144 : decode cX19_neighbours 144 = .ok (.putfield 457, 3) := by decide +kernel
theorem dX19_neighbours_147 : decode cX19_neighbours 147 = .ok (.iload_n 2, 1) := by decide +kernel
theorem dX19_neighbours_148 : decode cX19_neighbours 148 = .ok (.istore 4, 2) := by decide +kernel
theorem dX19_neighbours_150 : decode cX19_neighbours 150 = .ok (.iload 4, 2) := by decide +kernel
theorem dX19_neighbours_152 : decode cX19_neighbours 152 = .ok (.aload_n 0, 1) := by decide +kernel
theorem dX19_neighbours_153 : decode cX19_neighbours 153 = .ok (.getfield 457, 3) := by decide +kernel
theorem dX19_neighbours_156 : decode cX19_neighbours 156 = .ok (.if_icmp .ge 25, 3) := by decide +kernel
theorem dX19_neighbours_159 : decode cX19_neighbours 159 = .ok (.aload_n 0, 1) := by decide +kernel
theorem dX19_neighbours_160 : decode cX19_neighbours 160 = .ok (.getfield 460, 3) := by decide +kernel
theorem dX19_neighbours_163 : decode cX19_neighbours 163 = .ok (.iload 4, 2) := by decide +kernel
theorem dX19_neighbours_165 : decode cX19_neighbours 165 = .ok (.aload_n 0, 1) := by decide +kernel
theorem dX19_neighbours_166 : decode cX19_neighbours 166 = .ok (.getfield 460, 3) := by decide +kernel
theorem dX19_neighbours_169 : decode cX19_neighbours 169 = .ok (.iload 4, 2) := by decide +kernel
theorem dX19_neighbours_171 : decode cX19_neighbours 171 = .ok (.iconst 1, 1) := by decide +kernel
theorem dX19_neighbours_172 : decode cX19_neighbours 172 = .ok (.iadd, 1) := by decide +kernel
theorem dX19_neighbours_173 : decode cX19_neighbours 173 = .ok (.aaload, 1) := by decide +kernel
theorem dX19_neighbours_174 : decode cX19_neighbours 174 = .ok (.aastore, 1) := by decide +kernel
theorem dX19_neighbours_175 : decode cX19_neighbours 175 = .ok (.iinc 4 1, 3) := by decide +kernel
theorem dX19_neighbours_178 : decode cX19_neighbours 178 = .ok (.goto (-28), 3) := by decide +kernel
theorem dX19_neighbours_181 : decode cX19_neighbours 181 = .ok (.aload_n 0, 1) := by decide +kernel
theorem dX19_neighbours_182 : decode cX19_neighbours 182 = .ok (.getfield 460, 3) := by decide +kernel
theorem dX19_neighbours_185 : decode cX19_neighbours 185 = .ok (.aload_n 0, 1) := by decide +kernel
theorem dX19_neighbours_186 : decode cX19_neighbours 186 = .ok (.getfield 457, 3) := by decide +kernel
theorem dX19_neighbours_189 : decode cX19_neighbours 189 = .ok (.aload_n 3, 1) := by decide +kernel
theorem dX19_neighbours_190 : decode cX19_neighbours 190 = .ok (.aastore, 1) := by decide +kernel
theorem dX19_neighbours_191 : decode cX19_neighbours 191 = .ok (.aload_n 0, 1) := by decide +kernel
theorem dX19_neighbours_192 : decode cX19_neighbours 192 = .ok (.iconst 1, 1) := by decide +kernel
theorem dX19_neighbours_193 : decode cX19_neighbours 193 = .ok (.putfield 486, 3) := by decide +kernel
theorem dX19_neighbours_196 : decode cX19_neighbours 196 = .ok (.goto 6, 3) := by decide +kernel
theorem dX19_neighbours_199 : decode cX19_neighbours 199 = .ok (.iinc 2 1, 3) := by decide +kernel
theorem dX19_neighbours_202 : decode cX19_neighbours 202 = .ok (.goto (-106), 3) := by decide +kernel
theorem dX19_neighbours_205 : decode cX19_neighbours 205 = .ok (.return_, 1) := by decide +kernel
theorem dX19_isDue_0 : decode cX19_isDue 0 = .ok (.aload_n 1, 1) := by decide +kernel
theorem dX19_isDue_1 : decode cX19_isDue 1 = .ok (.getfield 452, 3) := by decide +kernel
theorem dX19_isDue_4 : decode cX19_isDue 4 = .ok (.iload_n 2, 1) := by decide +kernel
theorem dX19_isDue_5 : decode cX19_isDue 5 = .ok (.iconst 1, 1) := by decide +kernel
theorem dX19_isDue_6 : decode cX19_isDue 6 = .ok (.bastore, 1) := by decide +kernel
theorem dX19_isDue_7 : decode cX19_isDue 7 = .ok (.aload_n 1, 1) := by decide +kernel
theorem dX19_isDue_8 : decode cX19_isDue 8 = .ok (.getfield 476, 3) := by decide +kernel
theorem dX19_isDue_11 : decode cX19_isDue 11 = .ok (.iload_n 2, 1) := by decide +kernel
theorem dX19_isDue_12 : decode cX19_isDue 12 = .ok (.aload_n 0, 1) := by decide +kernel
theorem dX19_isDue_13 : decode cX19_isDue 13 = .ok (.getfield 143, 3) := by decide +kernel
theorem dX19_isDue_16 : decode cX19_isDue 16 = .ok (.iastore, 1) := by decide +kernel
theorem dX19_isDue_17 : decode cX19_isDue 17 = .ok (.return_, 1) := by decide +kernel
theorem dX19_advertCame_0 : decode cX19_advertCame 0 = .ok (.aload_n 1, 1) := by decide +kernel
theorem dX19_advertCame_1 : decode cX19_advertCame 1 = .ok (.aload_n 0, 1) := by decide +kernel
theorem dX19_advertCame_2 : decode cX19_advertCame 2 = .ok (.iload_n 2, 1) := by decide +kernel
theorem dX19_advertCame_3 : decode cX19_advertCame 3 = .ok (.bipush 9, 2) := by decide +kernel
theorem dX19_advertCame_5 : decode cX19_advertCame 5 = .ok (.invokevirtual 18, 3) := by decide +kernel
theorem dX19_advertCame_8 : decode cX19_advertCame 8 = .ok (.aload_n 0, 1) := by decide +kernel
theorem dX19_advertCame_9 : decode cX19_advertCame 9 = .ok (.iload_n 2, 1) := by decide +kernel
theorem dX19_advertCame_10 : decode cX19_advertCame 10 = .ok (.bipush 12, 2) := by decide +kernel
theorem dX19_advertCame_12 : decode cX19_advertCame 12 = .ok (.invokevirtual 18, 3) := by decide +kernel
theorem dX19_advertCame_15 : decode cX19_advertCame 15 = .ok (.invokestatic 444, 3) := by decide +kernel
theorem dX19_advertCame_18 : decode cX19_advertCame 18 = .ok (.astore_n 3, 1) := by decide +kernel
theorem dX19_advertCame_19 : decode cX19_advertCame 19 = .ok (.aload_n 3, 1) := by decide +kernel
theorem dX19_advertCame_20 : decode cX19_advertCame 20 = .ok (.ifnonnull 4, 3) := by decide +kernel
theorem dX19_advertCame_23 : decode cX19_advertCame 23 = .ok (.return_, 1) := by decide +kernel
theorem dX19_advertCame_24 : decode cX19_advertCame 24 = .ok (.aload_n 0, 1) := by decide +kernel
theorem dX19_advertCame_25 : decode cX19_advertCame 25 = .ok (.iload_n 2, 1) := by decide +kernel
theorem dX19_advertCame_26 : decode cX19_advertCame 26 = .ok (.bipush 11, 2) := by decide +kernel
theorem dX19_advertCame_28 : decode cX19_advertCame 28 = .ok (.invokevirtual 18, 3) := by decide +kernel
theorem dX19_advertCame_31 : decode cX19_advertCame 31 = .ok (.istore 4, 2) := by decide +kernel
theorem dX19_advertCame_33 : decode cX19_advertCame 33 = .ok (.aload_n 0, 1) := by decide +kernel
theorem dX19_advertCame_34 : decode cX19_advertCame 34 = .ok (.iload 4, 2) := by decide +kernel
theorem dX19_advertCame_36 : decode cX19_advertCame 36 = .ok (.iconst 0, 1) := by decide +kernel
theorem dX19_advertCame_37 : decode cX19_advertCame 37 = .ok (.invokevirtual 74, 3) := by decide +kernel
theorem dX19_advertCame_40 : decode cX19_advertCame 40 = .ok (.istore 5, 2) := by decide +kernel
theorem dX19_advertCame_42 : decode cX19_advertCame 42 = .ok (.aload_n 0, 1) := by decide +kernel
theorem dX19_advertCame_43 : decode cX19_advertCame 43 = .ok (.iload 4, 2) := by decide +kernel
theorem dX19_advertCame_45 : decode cX19_advertCame 45 = .ok (.iconst 1, 1) := by decide +kernel
theorem dX19_advertCame_46 : decode cX19_advertCame 46 = .ok (.invokevirtual 74, 3) := by decide +kernel
theorem dX19_advertCame_49 : decode cX19_advertCame 49 = .ok (.istore 6, 2) := by decide +kernel
theorem dX19_advertCame_51 : decode cX19_advertCame 51 = .ok (.aload_n 1, 1) := by decide +kernel
theorem dX19_advertCame_52 : decode cX19_advertCame 52 = .ok (.getfield 492, 3) := by decide +kernel
theorem dX19_advertCame_55 : decode cX19_advertCame 55 = .ok (.bipush 64, 2) := by decide +kernel
theorem dX19_advertCame_57 : decode cX19_advertCame 57 = .ok (.if_icmp .ge 64, 3) := by decide +kernel
theorem dX19_advertCame_60 : decode cX19_advertCame 60 = .ok (.aload_n 1, 1) := by decide +kernel
theorem dX19_advertCame_61 : decode cX19_advertCame 61 = .ok (.getfield 495, 3) := by decide +kernel
theorem dX19_advertCame_64 : decode cX19_advertCame 64 = .ok (.aload_n 1, 1) := by decide +kernel
theorem dX19_advertCame_65 : decode cX19_advertCame 65 = .ok (.getfield 492, 3) := by decide +kernel
theorem dX19_advertCame_68 : decode cX19_advertCame 68 = .ok (.aload_n 0, 1) := by decide +kernel
theorem dX19_advertCame_69 : decode cX19_advertCame 69 = .ok (.iload_n 2, 1) := by decide +kernel
theorem dX19_advertCame_70 : decode cX19_advertCame 70 = .ok (.bipush 9, 2) := by decide +kernel
theorem dX19_advertCame_72 : decode cX19_advertCame 72 = .ok (.invokevirtual 18, 3) := by decide +kernel
theorem dX19_advertCame_75 : decode cX19_advertCame 75 = .ok (.iastore, 1) := by decide +kernel
theorem dX19_advertCame_76 : decode cX19_advertCame 76 = .ok (.aload_n 1, 1) := by decide +kernel
theorem dX19_advertCame_77 : decode cX19_advertCame 77 = .ok (.getfield 498, 3) := by decide +kernel
theorem dX19_advertCame_80 : decode cX19_advertCame 80 = .ok (.aload_n 1, 1) := by decide +kernel
theorem dX19_advertCame_81 : decode cX19_advertCame 81 = .ok (.getfield 492, 3) := by decide +kernel
theorem dX19_advertCame_84 : decode cX19_advertCame 84 = .ok (.aload_n 0, 1) := by decide +kernel
theorem dX19_advertCame_85 : decode cX19_advertCame 85 = .ok (.iload_n 2, 1) := by decide +kernel
theorem dX19_advertCame_86 : decode cX19_advertCame 86 = .ok (.iconst 0, 1) := by decide +kernel
theorem dX19_advertCame_87 : decode cX19_advertCame 87 = .ok (.invokevirtual 18, 3) := by decide +kernel
theorem dX19_advertCame_90 : decode cX19_advertCame 90 = .ok (.iastore, 1) := by decide +kernel
theorem dX19_advertCame_91 : decode cX19_advertCame 91 = .ok (.aload_n 1, 1) := by decide +kernel
theorem dX19_advertCame_92 : decode cX19_advertCame 92 = .ok (.getfield 501, 3) := by decide +kernel
theorem dX19_advertCame_95 : decode cX19_advertCame 95 = .ok (.aload_n 1, 1) := by decide +kernel
theorem dX19_advertCame_96 : decode cX19_advertCame 96 = .ok (.getfield 492, 3) := by decide +kernel
theorem dX19_advertCame_99 : decode cX19_advertCame 99 = .ok (.iload 5, 2) := by decide +kernel
theorem dX19_advertCame_101 : decode cX19_advertCame 101 = .ok (.bipush 24, 2) := by decide +kernel
theorem dX19_advertCame_103 : decode cX19_advertCame 103 = .ok (.ishl, 1) := by decide +kernel
theorem dX19_advertCame_104 : decode cX19_advertCame 104 = .ok (.iload 6, 2) := by decide +kernel
theorem dX19_advertCame_106 : decode cX19_advertCame 106 = .ok (.ior, 1) := by decide +kernel
theorem dX19_advertCame_107 : decode cX19_advertCame 107 = .ok (.iastore, 1) := by decide +kernel
theorem dX19_advertCame_108 : decode cX19_advertCame 108 = .ok (.aload_n 1, 1) := by decide +kernel
theorem dX19_advertCame_109 : decode cX19_advertCame 109 = .ok (.dup, 1) := by decide +kernel
theorem dX19_advertCame_110 : decode cX19_advertCame 110 = .ok (.getfield 492, 3) := by decide +kernel
theorem dX19_advertCame_113 : decode cX19_advertCame 113 = .ok (.iconst 1, 1) := by decide +kernel
theorem dX19_advertCame_114 : decode cX19_advertCame 114 = .ok (.iadd, 1) := by decide +kernel
theorem dX19_advertCame_115 : decode cX19_advertCame 115 = .ok (.putfield 492, 3) := by decide +kernel
theorem dX19_advertCame_118 : decode cX19_advertCame 118 = .ok (.goto 7, 3) := by decide +kernel
theorem dX19_advertCame_121 : decode cX19_advertCame 121 = .ok (.aload_n 0, 1) := by decide +kernel
theorem dX19_advertCame_122 : decode cX19_advertCame 122 = .ok (.invokevirtual 168, 3) := by decide +kernel
theorem dX19_advertCame_125 : decode cX19_advertCame 125 = .ok (.aload_n 1, 1) := by decide +kernel
theorem dX19_advertCame_126 : decode cX19_advertCame 126 = .ok (.getfield 448, 3) := by decide +kernel
theorem dX19_advertCame_129 : decode cX19_advertCame 129 = .ok (.iload 5, 2) := by decide +kernel
theorem dX19_advertCame_131 : decode cX19_advertCame 131 = .ok (.iaload, 1) := by decide +kernel
theorem dX19_advertCame_132 : decode cX19_advertCame 132 = .ok (.iconst (-1), 1) := by decide +kernel
theorem dX19_advertCame_133 : decode cX19_advertCame 133 = .ok (.if_icmp .ne 7, 3) := by decide +kernel
theorem dX19_advertCame_136 : decode cX19_advertCame 136 = .ok (.iconst 0, 1) := by decide +kernel
theorem dX19_advertCame_137 : decode cX19_advertCame 137 = .ok (.goto 15, 3) := by decide +kernel
theorem dX19_advertCame_140 : decode cX19_advertCame 140 = .ok (.aload_n 0, 1) := by decide +kernel
theorem dX19_advertCame_141 : decode cX19_advertCame 141 = .ok (.aload_n 1, 1) := by decide +kernel
theorem dX19_advertCame_142 : decode cX19_advertCame 142 = .ok (.getfield 448, 3) := by decide +kernel
theorem dX19_advertCame_145 : decode cX19_advertCame 145 = .ok (.iload 5, 2) := by decide +kernel
theorem dX19_advertCame_147 : decode cX19_advertCame 147 = .ok (.iaload, 1) := by decide +kernel
theorem dX19_advertCame_148 : decode cX19_advertCame 148 = .ok (.iconst 1, 1) := by decide +kernel
theorem dX19_advertCame_149 : decode cX19_advertCame 149 = .ok (.invokevirtual 74, 3) := by decide +kernel
theorem dX19_advertCame_152 : decode cX19_advertCame 152 = .ok (.istore 7, 2) := by decide +kernel
theorem dX19_advertCame_154 : decode cX19_advertCame 154 = .ok (.iload 6, 2) := by decide +kernel
theorem dX19_advertCame_156 : decode cX19_advertCame 156 = .ok (.iload 7, 2) := by decide +kernel
theorem dX19_advertCame_158 : decode cX19_advertCame 158 = .ok (.if_icmp .lt 14, 3) := by decide +kernel
theorem dX19_advertCame_161 : decode cX19_advertCame 161 = .ok (.aload_n 3, 1) := by decide +kernel
theorem dX19_advertCame_162 : decode cX19_advertCame 162 = .ok (.getfield 452, 3) := by decide +kernel
theorem dX19_advertCame_165 : decode cX19_advertCame 165 = .ok (.iload 5, 2) := by decide +kernel
theorem dX19_advertCame_167 : decode cX19_advertCame 167 = .ok (.iconst 0, 1) := by decide +kernel
theorem dX19_advertCame_168 : decode cX19_advertCame 168 = .ok (.bastore, 1) := by decide +kernel
theorem dX19_advertCame_169 : decode cX19_advertCame 169 = .ok (.goto 10, 3) := by decide +kernel
theorem dX19_advertCame_172 : decode cX19_advertCame 172 = .ok (.aload_n 0, 1) := by decide +kernel
theorem dX19_advertCame_173 : decode cX19_advertCame 173 = .ok (.aload_n 3, 1) := by decide +kernel
theorem dX19_advertCame_174 : decode cX19_advertCame 174 = .ok (.iload 5, 2) := by decide +kernel
theorem dX19_advertCame_176 : decode cX19_advertCame 176 = .ok (.invokevirtual 504, 3) := by decide +kernel
theorem dX19_advertCame_179 : decode cX19_advertCame 179 = .ok (.iload 6, 2) := by decide +kernel
theorem dX19_advertCame_181 : decode cX19_advertCame 181 = .ok (.iload 7, 2) := by decide +kernel
theorem dX19_advertCame_183 : decode cX19_advertCame 183 = .ok (.if_icmp .le 34, 3) := by decide +kernel
theorem dX19_advertCame_186 : decode cX19_advertCame 186 = .ok (.iload 5, 2) := by decide +kernel
theorem dX19_advertCame_188 : decode cX19_advertCame 188 = .ok (.aload_n 1, 1) := by decide +kernel
theorem dX19_advertCame_189 : decode cX19_advertCame 189 = .ok (.getfield 310, 3) := by decide +kernel
theorem dX19_advertCame_192 : decode cX19_advertCame 192 = .ok (.if_icmp .eq 25, 3) := by decide +kernel
theorem dX19_advertCame_195 : decode cX19_advertCame 195 = .ok (.aload_n 0, 1) := by decide +kernel
theorem dX19_advertCame_196 : decode cX19_advertCame 196 = .ok (.getfield 25, 3) := by decide +kernel
theorem dX19_advertCame_199 : decode cX19_advertCame 199 = .ok (.iload 4, 2) := by decide +kernel
theorem dX19_advertCame_201 : decode cX19_advertCame 201 = .ok (.dup2, 1) := by decide +kernel
theorem dX19_advertCame_202 : decode cX19_advertCame 202 = .ok (.iaload, 1) := by decide +kernel
theorem dX19_advertCame_203 : decode cX19_advertCame 203 = .ok (.iconst 1, 1) := by decide +kernel
theorem dX19_advertCame_204 : decode cX19_advertCame 204 = .ok (.iadd, 1) := by decide +kernel
theorem dX19_advertCame_205 : decode cX19_advertCame 205 = .ok (.iastore, 1) := by decide +kernel
theorem dX19_advertCame_206 : decode cX19_advertCame 206 = .ok (.aload_n 0, 1) := by decide +kernel
theorem dX19_advertCame_207 : decode cX19_advertCame 207 = .ok (.aload_n 1, 1) := by decide +kernel
theorem dX19_advertCame_208 : decode cX19_advertCame 208 = .ok (.iload 4, 2) := by decide +kernel
theorem dX19_advertCame_210 : decode cX19_advertCame 210 = .ok (.aload_n 3, 1) := by decide +kernel
theorem dX19_advertCame_211 : decode cX19_advertCame 211 = .ok (.invokevirtual 508, 3) := by decide +kernel
theorem dX19_advertCame_214 : decode cX19_advertCame 214 = .ok (.goto 27, 3) := by decide +kernel
theorem dX19_advertCame_217 : decode cX19_advertCame 217 = .ok (.iload 5, 2) := by decide +kernel
theorem dX19_advertCame_219 : decode cX19_advertCame 219 = .ok (.aload_n 1, 1) := by decide +kernel
theorem dX19_advertCame_220 : decode cX19_advertCame 220 = .ok (.getfield 310, 3) := by decide +kernel
theorem dX19_advertCame_223 : decode cX19_advertCame 223 = .ok (.if_icmp .ne 18, 3) := by decide +kernel
theorem dX19_advertCame_226 : decode cX19_advertCame 226 = .ok (.iload 6, 2) := by decide +kernel
theorem dX19_advertCame_228 : decode cX19_advertCame 228 = .ok (.aload_n 1, 1) := by decide +kernel
theorem dX19_advertCame_229 : decode cX19_advertCame 229 = .ok (.getfield 512, 3) := by decide +kernel
theorem dX19_advertCame_232 : decode cX19_advertCame 232 = .ok (.if_icmp .le 9, 3) := by decide +kernel
theorem dX19_advertCame_235 : decode cX19_advertCame 235 = .ok (.aload_n 1, 1) := by decide +kernel
theorem dX19_advertCame_236 : decode cX19_advertCame 236 = .ok (.iload 6, 2) := by decide +kernel
theorem dX19_advertCame_238 : decode cX19_advertCame 238 = .ok (.putfield 512, 3) := by decide +kernel
theorem dX19_advertCame_241 : decode cX19_advertCame 241 = .ok (.return_, 1) := by decide +kernel
theorem dX19_take_0 : decode cX19_take 0 = .ok (.aload_n 0, 1) := by decide +kernel
theorem dX19_take_1 : decode cX19_take 1 = .ok (.iload_n 2, 1) := by decide +kernel
theorem dX19_take_2 : decode cX19_take 2 = .ok (.iconst 0, 1) := by decide +kernel
theorem dX19_take_3 : decode cX19_take 3 = .ok (.invokevirtual 74, 3) := by decide +kernel
theorem dX19_take_6 : decode cX19_take 6 = .ok (.istore 4, 2) := by decide +kernel
theorem dX19_take_8 : decode cX19_take 8 = .ok (.aload_n 1, 1) := by decide +kernel
theorem dX19_take_9 : decode cX19_take 9 = .ok (.getfield 448, 3) := by decide +kernel
theorem dX19_take_12 : decode cX19_take 12 = .ok (.iload 4, 2) := by decide +kernel
theorem dX19_take_14 : decode cX19_take 14 = .ok (.iaload, 1) := by decide +kernel
theorem dX19_take_15 : decode cX19_take 15 = .ok (.iconst (-1), 1) := by decide +kernel
theorem dX19_take_16 : decode cX19_take 16 = .ok (.if_icmp .eq 14, 3) := by decide +kernel
theorem dX19_take_19 : decode cX19_take 19 = .ok (.aload_n 0, 1) := by decide +kernel
theorem dX19_take_20 : decode cX19_take 20 = .ok (.aload_n 1, 1) := by decide +kernel
theorem dX19_take_21 : decode cX19_take 21 = .ok (.getfield 448, 3) := by decide +kernel
theorem dX19_take_24 : decode cX19_take 24 = .ok (.iload 4, 2) := by decide +kernel
theorem dX19_take_26 : decode cX19_take 26 = .ok (.iaload, 1) := by decide +kernel
theorem dX19_take_27 : decode cX19_take 27 = .ok (.invokevirtual 32, 3) := by decide +kernel
theorem dX19_take_30 : decode cX19_take 30 = .ok (.aload_n 1, 1) := by decide +kernel
theorem dX19_take_31 : decode cX19_take 31 = .ok (.getfield 448, 3) := by decide +kernel
theorem dX19_take_34 : decode cX19_take 34 = .ok (.iload 4, 2) := by decide +kernel
theorem dX19_take_36 : decode cX19_take 36 = .ok (.iload_n 2, 1) := by decide +kernel
theorem dX19_take_37 : decode cX19_take 37 = .ok (.iastore, 1) := by decide +kernel
theorem dX19_take_38 : decode cX19_take 38 = .ok (.aload_n 1, 1) := by decide +kernel
theorem dX19_take_39 : decode cX19_take 39 = .ok (.getfield 515, 3) := by decide +kernel
theorem dX19_take_42 : decode cX19_take 42 = .ok (.iload 4, 2) := by decide +kernel
theorem dX19_take_44 : decode cX19_take 44 = .ok (.aload_n 0, 1) := by decide +kernel
theorem dX19_take_45 : decode cX19_take 45 = .ok (.getfield 143, 3) := by decide +kernel
theorem dX19_take_48 : decode cX19_take 48 = .ok (.iastore, 1) := by decide +kernel
theorem dX19_take_49 : decode cX19_take 49 = .ok (.aload_n 1, 1) := by decide +kernel
theorem dX19_take_50 : decode cX19_take 50 = .ok (.iconst 1, 1) := by decide +kernel
theorem dX19_take_51 : decode cX19_take 51 = .ok (.putfield 489, 3) := by decide +kernel
theorem dX19_take_54 : decode cX19_take 54 = .ok (.iconst 0, 1) := by decide +kernel
theorem dX19_take_55 : decode cX19_take 55 = .ok (.istore 5, 2) := by decide +kernel
theorem dX19_take_57 : decode cX19_take 57 = .ok (.iload 5, 2) := by decide +kernel
theorem dX19_take_59 : decode cX19_take 59 = .ok (.aload_n 1, 1) := by decide +kernel
theorem dX19_take_60 : decode cX19_take 60 = .ok (.getfield 457, 3) := by decide +kernel
theorem dX19_take_63 : decode cX19_take 63 = .ok (.if_icmp .ge 40, 3) := by decide +kernel
theorem dX19_take_66 : decode cX19_take 66 = .ok (.aload_n 1, 1) := by decide +kernel
theorem dX19_take_67 : decode cX19_take 67 = .ok (.getfield 460, 3) := by decide +kernel
theorem dX19_take_70 : decode cX19_take 70 = .ok (.iload 5, 2) := by decide +kernel
theorem dX19_take_72 : decode cX19_take 72 = .ok (.aaload, 1) := by decide +kernel
theorem dX19_take_73 : decode cX19_take 73 = .ok (.astore 6, 2) := by decide +kernel
theorem dX19_take_75 : decode cX19_take 75 = .ok (.aload 6, 2) := by decide +kernel
theorem dX19_take_77 : decode cX19_take 77 = .ok (.aload_n 3, 1) := by decide +kernel
theorem dX19_take_78 : decode cX19_take 78 = .ok (.if_acmp .eq 19, 3) := by decide +kernel
theorem dX19_take_81 : decode cX19_take 81 = .ok (.aload 6, 2) := by decide +kernel
theorem dX19_take_83 : decode cX19_take 83 = .ok (.getfield 473, 3) := by decide +kernel
theorem dX19_take_86 : decode cX19_take 86 = .ok (.ifCond .eq 11, 3) := by decide +kernel
theorem dX19_take_89 : decode cX19_take 89 = .ok (.aload_n 0, 1) := by decide +kernel
theorem dX19_take_90 : decode cX19_take 90 = .ok (.aload 6, 2) := by decide +kernel
theorem dX19_take_92 : decode cX19_take 92 = .ok (.iload 4, 2) := by decide +kernel
theorem dX19_take_94 : decode cX19_take 94 = .ok (.invokevirtual 504, 3) := by decide +kernel
theorem dX19_take_97 : decode cX19_take 97 = .ok (.iinc 5 1, 3) := by decide +kernel
theorem dX19_take_100 : decode cX19_take 100 = .ok (.goto (-43), 3) := by decide +kernel
theorem dX19_take_103 : decode cX19_take 103 = .ok (.return_, 1) := by decide +kernel
theorem dX19_base_0 : decode cX19_base 0 = .ok (.iconst 0, 1) := by decide +kernel
theorem dX19_base_1 : decode cX19_base 1 = .ok (.istore_n 2, 1) := by decide +kernel
theorem dX19_base_2 : decode cX19_base 2 = .ok (.iload_n 2, 1) := by decide +kernel
theorem dX19_base_3 : decode cX19_base 3 = .ok (.bipush 16, 2) := by decide +kernel
theorem dX19_base_5 : decode cX19_base 5 = .ok (.if_icmp .ge 86, 3) := by decide +kernel
theorem dX19_base_8 : decode cX19_base 8 = .ok (.aload_n 1, 1) := by decide +kernel
theorem dX19_base_9 : decode cX19_base 9 = .ok (.getfield 448, 3) := by decide +kernel
theorem dX19_base_12 : decode cX19_base 12 = .ok (.iload_n 2, 1) := by decide +kernel
theorem dX19_base_13 : decode cX19_base 13 = .ok (.iaload, 1) := by decide +kernel
theorem dX19_base_14 : decode cX19_base 14 = .ok (.iconst (-1), 1) := by decide +kernel
theorem dX19_base_15 : decode cX19_base 15 = .ok (.if_icmp .eq 70, 3) := by decide +kernel
theorem dX19_base_18 : decode cX19_base 18 = .ok (.aload_n 0, 1) := by decide +kernel
theorem dX19_base_19 : decode cX19_base 19 = .ok (.getfield 143, 3) := by decide +kernel
theorem dX19_base_22 : decode cX19_base 22 = .ok (.aload_n 1, 1) := by decide +kernel
theorem dX19_base_23 : decode cX19_base 23 = .ok (.getfield 515, 3) := by decide +kernel
theorem dX19_base_26 : decode cX19_base 26 = .ok (.iload_n 2, 1) := by decide +kernel
theorem dX19_base_27 : decode cX19_base 27 = .ok (.iaload, 1) := by decide +kernel
theorem dX19_base_28 : decode cX19_base 28 = .ok (.isub, 1) := by decide +kernel
theorem dX19_base_29 : decode cX19_base 29 = .ok (.sipush 5000, 3) := by decide +kernel
theorem dX19_base_32 : decode cX19_base 32 = .ok (.if_icmp .lt 53, 3) := by decide +kernel
theorem dX19_base_35 : decode cX19_base 35 = .ok (.aload_n 0, 1) := by decide +kernel
theorem dX19_base_36 : decode cX19_base 36 = .ok (.aload_n 1, 1) := by decide +kernel
theorem dX19_base_37 : decode cX19_base 37 = .ok (.getfield 448, 3) := by decide +kernel
theorem dX19_base_40 : decode cX19_base 40 = .ok (.iload_n 2, 1) := by decide +kernel
theorem dX19_base_41 : decode cX19_base 41 = .ok (.iaload, 1) := by decide +kernel
theorem dX19_base_42 : decode cX19_base 42 = .ok (.invokevirtual 32, 3) := by decide +kernel
theorem dX19_base_45 : decode cX19_base 45 = .ok (.aload_n 1, 1) := by decide +kernel
theorem dX19_base_46 : decode cX19_base 46 = .ok (.getfield 448, 3) := by decide +kernel
theorem dX19_base_49 : decode cX19_base 49 = .ok (.iload_n 2, 1) := by decide +kernel
theorem dX19_base_50 : decode cX19_base 50 = .ok (.iconst (-1), 1) := by decide +kernel
theorem dX19_base_51 : decode cX19_base 51 = .ok (.iastore, 1) := by decide +kernel
theorem dX19_base_52 : decode cX19_base 52 = .ok (.aload_n 1, 1) := by decide +kernel
theorem dX19_base_53 : decode cX19_base 53 = .ok (.iconst 1, 1) := by decide +kernel
theorem dX19_base_54 : decode cX19_base 54 = .ok (.putfield 489, 3) := by decide +kernel
theorem dX19_base_57 : decode cX19_base 57 = .ok (.iconst 0, 1) := by decide +kernel
theorem dX19_base_58 : decode cX19_base 58 = .ok (.istore_n 3, 1) := by decide +kernel
theorem dX19_base_59 : decode cX19_base 59 = .ok (.iload_n 3, 1) := by decide +kernel
theorem dX19_base_60 : decode cX19_base 60 = .ok (.aload_n 1, 1) := by decide +kernel
theorem dX19_base_61 : decode cX19_base 61 = .ok (.getfield 457, 3) := by decide +kernel
theorem dX19_base_64 : decode cX19_base 64 = .ok (.if_icmp .ge 21, 3) := by decide +kernel
theorem dX19_base_67 : decode cX19_base 67 = .ok (.aload_n 1, 1) := by decide +kernel
theorem dX19_base_68 : decode cX19_base 68 = .ok (.getfield 460, 3) := by decide +kernel
theorem dX19_base_71 : decode cX19_base 71 = .ok (.iload_n 3, 1) := by decide +kernel
theorem dX19_base_72 : decode cX19_base 72 = .ok (.aaload, 1) := by decide +kernel
theorem dX19_base_73 : decode cX19_base 73 = .ok (.getfield 452, 3) := by decide +kernel
theorem dX19_base_76 : decode cX19_base 76 = .ok (.iload_n 2, 1) := by decide +kernel
theorem dX19_base_77 : decode cX19_base 77 = .ok (.iconst 0, 1) := by decide +kernel
theorem dX19_base_78 : decode cX19_base 78 = .ok (.bastore, 1) := by decide +kernel
theorem dX19_base_79 : decode cX19_base 79 = .ok (.iinc 3 1, 3) := by decide +kernel
theorem dX19_base_82 : decode cX19_base 82 = .ok (.goto (-23), 3) := by decide +kernel
theorem dX19_base_85 : decode cX19_base 85 = .ok (.iinc 2 1, 3) := by decide +kernel
theorem dX19_base_88 : decode cX19_base 88 = .ok (.goto (-86), 3) := by decide +kernel
theorem dX19_base_91 : decode cX19_base 91 = .ok (.return_, 1) := by decide +kernel
theorem dX19_insert_0 : decode cX19_insert 0 = .ok (.bipush 76, 2) := by decide +kernel
theorem dX19_insert_2 : decode cX19_insert 2 = .ok (.iload_n 1, 1) := by decide +kernel
theorem dX19_insert_3 : decode cX19_insert 3 = .ok (.imul, 1) := by decide +kernel
theorem dX19_insert_4 : decode cX19_insert 4 = .ok (.iconst 4, 1) := by decide +kernel
theorem dX19_insert_5 : decode cX19_insert 5 = .ok (.iadd, 1) := by decide +kernel
theorem dX19_insert_6 : decode cX19_insert 6 = .ok (.iconst 3, 1) := by decide +kernel
theorem dX19_insert_7 : decode cX19_insert 7 = .ok (.iload_n 2, 1) := by decide +kernel
theorem dX19_insert_8 : decode cX19_insert 8 = .ok (.iload_n 3, 1) := by decide +kernel
theorem dX19_insert_9 : decode cX19_insert 9 = .ok (.iadd, 1) := by decide +kernel
theorem dX19_insert_10 : decode cX19_insert 10 = .ok (.imul, 1) := by decide +kernel
theorem dX19_insert_11 : decode cX19_insert 11 = .ok (.iadd, 1) := by decide +kernel
theorem dX19_insert_12 : decode cX19_insert 12 = .ok (.istore 7, 2) := by decide +kernel
theorem dX19_insert_14 : decode cX19_insert 14 = .ok (.bipush 76, 2) := by decide +kernel
theorem dX19_insert_16 : decode cX19_insert 16 = .ok (.iload_n 1, 1) := by decide +kernel
theorem dX19_insert_17 : decode cX19_insert 17 = .ok (.imul, 1) := by decide +kernel
theorem dX19_insert_18 : decode cX19_insert 18 = .ok (.iconst 4, 1) := by decide +kernel
theorem dX19_insert_19 : decode cX19_insert 19 = .ok (.iadd, 1) := by decide +kernel
theorem dX19_insert_20 : decode cX19_insert 20 = .ok (.iconst 3, 1) := by decide +kernel
theorem dX19_insert_21 : decode cX19_insert 21 = .ok (.iload_n 2, 1) := by decide +kernel
theorem dX19_insert_22 : decode cX19_insert 22 = .ok (.imul, 1) := by decide +kernel
theorem dX19_insert_23 : decode cX19_insert 23 = .ok (.iadd, 1) := by decide +kernel
theorem dX19_insert_24 : decode cX19_insert 24 = .ok (.istore 8, 2) := by decide +kernel
theorem dX19_insert_26 : decode cX19_insert 26 = .ok (.iload 7, 2) := by decide +kernel
theorem dX19_insert_28 : decode cX19_insert 28 = .ok (.iload 8, 2) := by decide +kernel
theorem dX19_insert_30 : decode cX19_insert 30 = .ok (.if_icmp .le 103, 3) := by decide +kernel
theorem dX19_insert_33 : decode cX19_insert 33 = .ok (.aload_n 0, 1) := by decide +kernel
theorem dX19_insert_34 : decode cX19_insert 34 = .ok (.getfield 65, 3) := by decide +kernel
theorem dX19_insert_37 : decode cX19_insert 37 = .ok (.iload 7, 2) := by decide +kernel
theorem dX19_insert_39 : decode cX19_insert 39 = .ok (.iconst 2, 1) := by decide +kernel
theorem dX19_insert_40 : decode cX19_insert 40 = .ok (.isub, 1) := by decide +kernel
theorem dX19_insert_41 : decode cX19_insert 41 = .ok (.iaload, 1) := by decide +kernel
theorem dX19_insert_42 : decode cX19_insert 42 = .ok (.iload 5, 2) := by decide +kernel
theorem dX19_insert_44 : decode cX19_insert 44 = .ok (.if_icmp .gt 31, 3) := by decide +kernel
theorem dX19_insert_47 : decode cX19_insert 47 = .ok (.aload_n 0, 1) := by decide +kernel
theorem dX19_insert_48 : decode cX19_insert 48 = .ok (.getfield 65, 3) := by decide +kernel
theorem dX19_insert_51 : decode cX19_insert 51 = .ok (.iload 7, 2) := by decide +kernel
theorem dX19_insert_53 : decode cX19_insert 53 = .ok (.iconst 2, 1) := by decide +kernel
theorem dX19_insert_54 : decode cX19_insert 54 = .ok (.isub, 1) := by decide +kernel
theorem dX19_insert_55 : decode cX19_insert 55 = .ok (.iaload, 1) := by decide +kernel
theorem dX19_insert_56 : decode cX19_insert 56 = .ok (.iload 5, 2) := by decide +kernel
theorem dX19_insert_58 : decode cX19_insert 58 = .ok (.if_icmp .ne 75, 3) := by decide +kernel
theorem dX19_insert_61 : decode cX19_insert 61 = .ok (.aload_n 0, 1) := by decide +kernel
theorem dX19_insert_62 : decode cX19_insert 62 = .ok (.getfield 65, 3) := by decide +kernel
theorem dX19_insert_65 : decode cX19_insert 65 = .ok (.iload 7, 2) := by decide +kernel
theorem dX19_insert_67 : decode cX19_insert 67 = .ok (.iconst 3, 1) := by decide +kernel
theorem dX19_insert_68 : decode cX19_insert 68 = .ok (.isub, 1) := by decide +kernel
theorem dX19_insert_69 : decode cX19_insert 69 = .ok (.iaload, 1) := by decide +kernel
theorem dX19_insert_70 : decode cX19_insert 70 = .ok (.iload 4, 2) := by decide +kernel
theorem dX19_insert_72 : decode cX19_insert 72 = .ok (.if_icmp .le 61, 3) := by decide +kernel
theorem dX19_insert_75 : decode cX19_insert 75 = .ok (.aload_n 0, 1) := by decide +kernel
theorem dX19_insert_76 : decode cX19_insert 76 = .ok (.getfield 65, 3) := by decide +kernel
theorem dX19_insert_79 : decode cX19_insert 79 = .ok (.iload 7, 2) := by decide +kernel
theorem dX19_insert_81 : decode cX19_insert 81 = .ok (.aload_n 0, 1) := by decide +kernel
theorem dX19_insert_82 : decode cX19_insert 82 = .ok (.getfield 65, 3) := by decide +kernel
theorem dX19_insert_85 : decode cX19_insert 85 = .ok (.iload 7, 2) := by decide +kernel
theorem dX19_insert_87 : decode cX19_insert 87 = .ok (.iconst 3, 1) := by decide +kernel
theorem dX19_insert_88 : decode cX19_insert 88 = .ok (.isub, 1) := by decide +kernel
theorem dX19_insert_89 : decode cX19_insert 89 = .ok (.iaload, 1) := by decide +kernel
theorem dX19_insert_90 : decode cX19_insert 90 = .ok (.iastore, 1) := by decide +kernel
theorem dX19_insert_91 : decode cX19_insert 91 = .ok (.aload_n 0, 1) := by decide +kernel
theorem dX19_insert_92 : decode cX19_insert 92 = .ok (.getfield 65, 3) := by decide +kernel
theorem dX19_insert_95 : decode cX19_insert 95 = .ok (.iload 7, 2) := by decide +kernel
theorem dX19_insert_97 : decode cX19_insert 97 = .ok (.iconst 1, 1) := by decide +kernel
theorem dX19_insert_98 : decode cX19_insert 98 = .ok (.iadd, 1) := by decide +kernel
theorem dX19_insert_99 : decode cX19_insert 99 = .ok (.aload_n 0, 1) := by decide +kernel
theorem dX19_insert_100 : decode cX19_insert 100 = .ok (.getfield 65, 3) := by decide +kernel
theorem dX19_insert_103 : decode cX19_insert 103 = .ok (.iload 7, 2) := by decide +kernel
theorem dX19_insert_105 : decode cX19_insert 105 = .ok (.iconst 2, 1) := by decide +kernel
theorem dX19_insert_106 : decode cX19_insert 106 = .ok (.isub, 1) := by decide +kernel
theorem dX19_insert_107 : decode cX19_insert 107 = .ok (.iaload, 1) := by decide +kernel
theorem dX19_insert_108 : decode cX19_insert 108 = .ok (.iastore, 1) := by decide +kernel
theorem dX19_insert_109 : decode cX19_insert 109 = .ok (.aload_n 0, 1) := by decide +kernel
theorem dX19_insert_110 : decode cX19_insert 110 = .ok (.getfield 65, 3) := by decide +kernel
theorem dX19_insert_113 : decode cX19_insert 113 = .ok (.iload 7, 2) := by decide +kernel
theorem dX19_insert_115 : decode cX19_insert 115 = .ok (.iconst 2, 1) := by decide +kernel
theorem dX19_insert_116 : decode cX19_insert 116 = .ok (.iadd, 1) := by decide +kernel
theorem dX19_insert_117 : decode cX19_insert 117 = .ok (.aload_n 0, 1) := by decide +kernel
theorem dX19_insert_118 : decode cX19_insert 118 = .ok (.getfield 65, 3) := by decide +kernel
theorem dX19_insert_121 : decode cX19_insert 121 = .ok (.iload 7, 2) := by decide +kernel
theorem dX19_insert_123 : decode cX19_insert 123 = .ok (.iconst 1, 1) := by decide +kernel
theorem dX19_insert_124 : decode cX19_insert 124 = .ok (.isub, 1) := by decide +kernel
theorem dX19_insert_125 : decode cX19_insert 125 = .ok (.iaload, 1) := by decide +kernel
theorem dX19_insert_126 : decode cX19_insert 126 = .ok (.iastore, 1) := by decide +kernel
theorem dX19_insert_127 : decode cX19_insert 127 = .ok (.iinc 7 (-3), 3) := by decide +kernel
theorem dX19_insert_130 : decode cX19_insert 130 = .ok (.goto (-104), 3) := by decide +kernel
theorem dX19_insert_133 : decode cX19_insert 133 = .ok (.aload_n 0, 1) := by decide +kernel
theorem dX19_insert_134 : decode cX19_insert 134 = .ok (.getfield 65, 3) := by decide +kernel
theorem dX19_insert_137 : decode cX19_insert 137 = .ok (.iload 7, 2) := by decide +kernel
theorem dX19_insert_139 : decode cX19_insert 139 = .ok (.iload 4, 2) := by decide +kernel
theorem dX19_insert_141 : decode cX19_insert 141 = .ok (.iastore, 1) := by decide +kernel
theorem dX19_insert_142 : decode cX19_insert 142 = .ok (.aload_n 0, 1) := by decide +kernel
theorem dX19_insert_143 : decode cX19_insert 143 = .ok (.getfield 65, 3) := by decide +kernel
theorem dX19_insert_146 : decode cX19_insert 146 = .ok (.iload 7, 2) := by decide +kernel
theorem dX19_insert_148 : decode cX19_insert 148 = .ok (.iconst 1, 1) := by decide +kernel
theorem dX19_insert_149 : decode cX19_insert 149 = .ok (.iadd, 1) := by decide +kernel
theorem dX19_insert_150 : decode cX19_insert 150 = .ok (.iload 5, 2) := by decide +kernel
theorem dX19_insert_152 : decode cX19_insert 152 = .ok (.iastore, 1) := by decide +kernel
theorem dX19_insert_153 : decode cX19_insert 153 = .ok (.aload_n 0, 1) := by decide +kernel
theorem dX19_insert_154 : decode cX19_insert 154 = .ok (.getfield 65, 3) := by decide +kernel
theorem dX19_insert_157 : decode cX19_insert 157 = .ok (.iload 7, 2) := by decide +kernel
theorem dX19_insert_159 : decode cX19_insert 159 = .ok (.iconst 2, 1) := by decide +kernel
theorem dX19_insert_160 : decode cX19_insert 160 = .ok (.iadd, 1) := by decide +kernel
theorem dX19_insert_161 : decode cX19_insert 161 = .ok (.iload 6, 2) := by decide +kernel
theorem dX19_insert_163 : decode cX19_insert 163 = .ok (.iastore, 1) := by decide +kernel
theorem dX19_insert_164 : decode cX19_insert 164 = .ok (.return_, 1) := by decide +kernel
theorem dX19_wouldTell_0 : decode cX19_wouldTell 0 = .ok (.aload_n 0, 1) := by decide +kernel
theorem dX19_wouldTell_1 : decode cX19_wouldTell 1 = .ok (.aload_n 1, 1) := by decide +kernel
theorem dX19_wouldTell_2 : decode cX19_wouldTell 2 = .ok (.getfield 310, 3) := by decide +kernel
theorem dX19_wouldTell_5 : decode cX19_wouldTell 5 = .ok (.invokevirtual 517, 3) := by decide +kernel
theorem dX19_wouldTell_8 : decode cX19_wouldTell 8 = .ok (.istore_n 2, 1) := by decide +kernel
theorem dX19_wouldTell_9 : decode cX19_wouldTell 9 = .ok (.iconst 0, 1) := by decide +kernel
theorem dX19_wouldTell_10 : decode cX19_wouldTell 10 = .ok (.istore_n 3, 1) := by decide +kernel
theorem dX19_wouldTell_11 : decode cX19_wouldTell 11 = .ok (.iconst 0, 1) := by decide +kernel
theorem dX19_wouldTell_12 : decode cX19_wouldTell 12 = .ok (.istore 4, 2) := by decide +kernel
theorem dX19_wouldTell_14 : decode cX19_wouldTell 14 = .ok (.iload 4, 2) := by decide +kernel
theorem dX19_wouldTell_16 : decode cX19_wouldTell 16 = .ok (.aload_n 1, 1) := by decide +kernel
theorem dX19_wouldTell_17 : decode cX19_wouldTell 17 = .ok (.getfield 273, 3) := by decide +kernel
theorem dX19_wouldTell_20 : decode cX19_wouldTell 20 = .ok (.if_icmp .ge 50, 3) := by decide +kernel
theorem dX19_wouldTell_23 : decode cX19_wouldTell 23 = .ok (.aload_n 1, 1) := by decide +kernel
theorem dX19_wouldTell_24 : decode cX19_wouldTell 24 = .ok (.getfield 276, 3) := by decide +kernel
theorem dX19_wouldTell_27 : decode cX19_wouldTell 27 = .ok (.iload 4, 2) := by decide +kernel
theorem dX19_wouldTell_29 : decode cX19_wouldTell 29 = .ok (.aaload, 1) := by decide +kernel
theorem dX19_wouldTell_30 : decode cX19_wouldTell 30 = .ok (.astore 5, 2) := by decide +kernel
theorem dX19_wouldTell_32 : decode cX19_wouldTell 32 = .ok (.aload 5, 2) := by decide +kernel
theorem dX19_wouldTell_34 : decode cX19_wouldTell 34 = .ok (.getfield 479, 3) := by decide +kernel
theorem dX19_wouldTell_37 : decode cX19_wouldTell 37 = .ok (.ifCond .eq 27, 3) := by decide +kernel
theorem dX19_wouldTell_40 : decode cX19_wouldTell 40 = .ok (.aload_n 0, 1) := by decide +kernel
theorem dX19_wouldTell_41 : decode cX19_wouldTell 41 = .ok (.iload_n 2, 1) := by decide +kernel
theorem dX19_wouldTell_42 : decode cX19_wouldTell 42 = .ok (.iconst 0, 1) := by decide +kernel
theorem dX19_wouldTell_43 : decode cX19_wouldTell 43 = .ok (.iload_n 3, 1) := by decide +kernel
theorem dX19_wouldTell_44 : decode cX19_wouldTell 44 = .ok (.iconst (-1), 1) := by decide +kernel
theorem dX19_wouldTell_45 : decode cX19_wouldTell 45 = .ok (.aload 5, 2) := by decide +kernel
theorem dX19_wouldTell_47 : decode cX19_wouldTell 47 = .ok (.getfield 149, 3) := by decide +kernel
theorem dX19_wouldTell_50 : decode cX19_wouldTell 50 = .ok (.getfield 181, 3) := by decide +kernel
theorem dX19_wouldTell_53 : decode cX19_wouldTell 53 = .ok (.aload 5, 2) := by decide +kernel
theorem dX19_wouldTell_55 : decode cX19_wouldTell 55 = .ok (.getfield 520, 3) := by decide +kernel
theorem dX19_wouldTell_58 : decode cX19_wouldTell 58 = .ok (.invokevirtual 523, 3) := by decide +kernel
theorem dX19_wouldTell_61 : decode cX19_wouldTell 61 = .ok (.iinc 3 1, 3) := by decide +kernel
theorem dX19_wouldTell_64 : decode cX19_wouldTell 64 = .ok (.iinc 4 1, 3) := by decide +kernel
theorem dX19_wouldTell_67 : decode cX19_wouldTell 67 = .ok (.goto (-53), 3) := by decide +kernel
theorem dX19_wouldTell_70 : decode cX19_wouldTell 70 = .ok (.iconst 0, 1) := by decide +kernel
theorem dX19_wouldTell_71 : decode cX19_wouldTell 71 = .ok (.istore 4, 2) := by decide +kernel
theorem dX19_wouldTell_73 : decode cX19_wouldTell 73 = .ok (.iconst 0, 1) := by decide +kernel
theorem dX19_wouldTell_74 : decode cX19_wouldTell 74 = .ok (.istore 5, 2) := by decide +kernel
theorem dX19_wouldTell_76 : decode cX19_wouldTell 76 = .ok (.iload 5, 2) := by decide +kernel
theorem dX19_wouldTell_78 : decode cX19_wouldTell 78 = .ok (.aload_n 1, 1) := by decide +kernel
theorem dX19_wouldTell_79 : decode cX19_wouldTell 79 = .ok (.getfield 457, 3) := by decide +kernel
theorem dX19_wouldTell_82 : decode cX19_wouldTell 82 = .ok (.if_icmp .ge 75, 3) := by decide +kernel
theorem dX19_wouldTell_85 : decode cX19_wouldTell 85 = .ok (.aload_n 1, 1) := by decide +kernel
theorem dX19_wouldTell_86 : decode cX19_wouldTell 86 = .ok (.getfield 460, 3) := by decide +kernel
theorem dX19_wouldTell_89 : decode cX19_wouldTell 89 = .ok (.iload 5, 2) := by decide +kernel
theorem dX19_wouldTell_91 : decode cX19_wouldTell 91 = .ok (.aaload, 1) := by decide +kernel
theorem dX19_wouldTell_92 : decode cX19_wouldTell 92 = .ok (.astore 6, 2) := by decide +kernel
theorem dX19_wouldTell_94 : decode cX19_wouldTell 94 = .ok (.aload_n 1, 1) := by decide +kernel
theorem dX19_wouldTell_95 : decode cX19_wouldTell 95 = .ok (.getfield 276, 3) := by decide +kernel
theorem dX19_wouldTell_98 : decode cX19_wouldTell 98 = .ok (.aload 6, 2) := by decide +kernel
theorem dX19_wouldTell_100 : decode cX19_wouldTell 100 = .ok (.getfield 464, 3) := by decide +kernel
theorem dX19_wouldTell_103 : decode cX19_wouldTell 103 = .ok (.aaload, 1) := by decide +kernel
theorem dX19_wouldTell_104 : decode cX19_wouldTell 104 = .ok (.astore 7, 2) := by decide +kernel
theorem dX19_wouldTell_106 : decode cX19_wouldTell 106 = .ok (.aload 6, 2) := by decide +kernel
theorem dX19_wouldTell_108 : decode cX19_wouldTell 108 = .ok (.getfield 473, 3) := by decide +kernel
theorem dX19_wouldTell_111 : decode cX19_wouldTell 111 = .ok (.ifCond .eq 40, 3) := by decide +kernel
theorem dX19_wouldTell_114 : decode cX19_wouldTell 114 = .ok (.aload 7, 2) := by decide +kernel
theorem dX19_wouldTell_116 : decode cX19_wouldTell 116 = .ok (.getfield 479, 3) := by decide +kernel
theorem dX19_wouldTell_119 : decode cX19_wouldTell 119 = .ok (.ifCond .eq 32, 3) := by decide +kernel
theorem dX19_wouldTell_122 : decode cX19_wouldTell 122 = .ok (.aload_n 0, 1) := by decide +kernel
theorem dX19_wouldTell_123 : decode cX19_wouldTell 123 = .ok (.iload_n 2, 1) := by decide +kernel
theorem dX19_wouldTell_124 : decode cX19_wouldTell 124 = .ok (.iload_n 3, 1) := by decide +kernel
theorem dX19_wouldTell_125 : decode cX19_wouldTell 125 = .ok (.iload 4, 2) := by decide +kernel
theorem dX19_wouldTell_127 : decode cX19_wouldTell 127 = .ok (.aload 6, 2) := by decide +kernel
theorem dX19_wouldTell_129 : decode cX19_wouldTell 129 = .ok (.getfield 467, 3) := by decide +kernel
theorem dX19_wouldTell_132 : decode cX19_wouldTell 132 = .ok (.aload 7, 2) := by decide +kernel
theorem dX19_wouldTell_134 : decode cX19_wouldTell 134 = .ok (.getfield 149, 3) := by decide +kernel
theorem dX19_wouldTell_137 : decode cX19_wouldTell 137 = .ok (.getfield 181, 3) := by decide +kernel
theorem dX19_wouldTell_140 : decode cX19_wouldTell 140 = .ok (.aload 7, 2) := by decide +kernel
theorem dX19_wouldTell_142 : decode cX19_wouldTell 142 = .ok (.getfield 520, 3) := by decide +kernel
theorem dX19_wouldTell_145 : decode cX19_wouldTell 145 = .ok (.invokevirtual 523, 3) := by decide +kernel
theorem dX19_wouldTell_148 : decode cX19_wouldTell 148 = .ok (.iinc 4 1, 3) := by decide +kernel
theorem dX19_wouldTell_151 : decode cX19_wouldTell 151 = .ok (.iinc 5 1, 3) := by decide +kernel
theorem dX19_wouldTell_154 : decode cX19_wouldTell 154 = .ok (.goto (-78), 3) := by decide +kernel
theorem dX19_wouldTell_157 : decode cX19_wouldTell 157 = .ok (.aload_n 0, 1) := by decide +kernel
theorem dX19_wouldTell_158 : decode cX19_wouldTell 158 = .ok (.getfield 65, 3) := by decide +kernel
theorem dX19_wouldTell_161 : decode cX19_wouldTell 161 = .ok (.bipush 76, 2) := by decide +kernel
theorem dX19_wouldTell_163 : decode cX19_wouldTell 163 = .ok (.iload_n 2, 1) := by decide +kernel
theorem dX19_wouldTell_164 : decode cX19_wouldTell 164 = .ok (.imul, 1) := by decide +kernel
theorem dX19_wouldTell_165 : decode cX19_wouldTell 165 = .ok (.iconst 2, 1) := by decide +kernel
theorem dX19_wouldTell_166 : decode cX19_wouldTell 166 = .ok (.iadd, 1) := by decide +kernel
theorem dX19_wouldTell_167 : decode cX19_wouldTell 167 = .ok (.iload_n 3, 1) := by decide +kernel
theorem dX19_wouldTell_168 : decode cX19_wouldTell 168 = .ok (.iastore, 1) := by decide +kernel
theorem dX19_wouldTell_169 : decode cX19_wouldTell 169 = .ok (.aload_n 0, 1) := by decide +kernel
theorem dX19_wouldTell_170 : decode cX19_wouldTell 170 = .ok (.getfield 65, 3) := by decide +kernel
theorem dX19_wouldTell_173 : decode cX19_wouldTell 173 = .ok (.bipush 76, 2) := by decide +kernel
theorem dX19_wouldTell_175 : decode cX19_wouldTell 175 = .ok (.iload_n 2, 1) := by decide +kernel
theorem dX19_wouldTell_176 : decode cX19_wouldTell 176 = .ok (.imul, 1) := by decide +kernel
theorem dX19_wouldTell_177 : decode cX19_wouldTell 177 = .ok (.iconst 3, 1) := by decide +kernel
theorem dX19_wouldTell_178 : decode cX19_wouldTell 178 = .ok (.iadd, 1) := by decide +kernel
theorem dX19_wouldTell_179 : decode cX19_wouldTell 179 = .ok (.iload 4, 2) := by decide +kernel
theorem dX19_wouldTell_181 : decode cX19_wouldTell 181 = .ok (.iastore, 1) := by decide +kernel
theorem dX19_wouldTell_182 : decode cX19_wouldTell 182 = .ok (.iload_n 2, 1) := by decide +kernel
theorem dX19_wouldTell_183 : decode cX19_wouldTell 183 = .ok (.ireturn, 1) := by decide +kernel
theorem dX19_ownAdvert_0 : decode cX19_ownAdvert 0 = .ok (.aload_n 0, 1) := by decide +kernel
theorem dX19_ownAdvert_1 : decode cX19_ownAdvert 1 = .ok (.getfield 143, 3) := by decide +kernel
theorem dX19_ownAdvert_4 : decode cX19_ownAdvert 4 = .ok (.aload_n 1, 1) := by decide +kernel
theorem dX19_ownAdvert_5 : decode cX19_ownAdvert 5 = .ok (.getfield 527, 3) := by decide +kernel
theorem dX19_ownAdvert_8 : decode cX19_ownAdvert 8 = .ok (.isub, 1) := by decide +kernel
theorem dX19_ownAdvert_9 : decode cX19_ownAdvert 9 = .ok (.bipush 10, 2) := by decide +kernel
theorem dX19_ownAdvert_11 : decode cX19_ownAdvert 11 = .ok (.if_icmp .ge 4, 3) := by decide +kernel
theorem dX19_ownAdvert_14 : decode cX19_ownAdvert 14 = .ok (.return_, 1) := by decide +kernel
theorem dX19_ownAdvert_15 : decode cX19_ownAdvert 15 = .ok (.aload_n 1, 1) := by decide +kernel
theorem dX19_ownAdvert_16 : decode cX19_ownAdvert 16 = .ok (.getfield 448, 3) := by decide +kernel
theorem dX19_ownAdvert_19 : decode cX19_ownAdvert 19 = .ok (.aload_n 1, 1) := by decide +kernel
theorem dX19_ownAdvert_20 : decode cX19_ownAdvert 20 = .ok (.getfield 310, 3) := by decide +kernel
theorem dX19_ownAdvert_23 : decode cX19_ownAdvert 23 = .ok (.iaload, 1) := by decide +kernel
theorem dX19_ownAdvert_24 : decode cX19_ownAdvert 24 = .ok (.istore_n 2, 1) := by decide +kernel
theorem dX19_ownAdvert_25 : decode cX19_ownAdvert 25 = .ok (.aload_n 0, 1) := by decide +kernel
theorem dX19_ownAdvert_26 : decode cX19_ownAdvert 26 = .ok (.getfield 143, 3) := by decide +kernel
theorem dX19_ownAdvert_29 : decode cX19_ownAdvert 29 = .ok (.aload_n 1, 1) := by decide +kernel
theorem dX19_ownAdvert_30 : decode cX19_ownAdvert 30 = .ok (.getfield 527, 3) := by decide +kernel
theorem dX19_ownAdvert_33 : decode cX19_ownAdvert 33 = .ok (.isub, 1) := by decide +kernel
theorem dX19_ownAdvert_34 : decode cX19_ownAdvert 34 = .ok (.sipush 2000, 3) := by decide +kernel
theorem dX19_ownAdvert_37 : decode cX19_ownAdvert 37 = .ok (.if_icmp .lt 7, 3) := by decide +kernel
theorem dX19_ownAdvert_40 : decode cX19_ownAdvert 40 = .ok (.iconst 1, 1) := by decide +kernel
theorem dX19_ownAdvert_41 : decode cX19_ownAdvert 41 = .ok (.goto 4, 3) := by decide +kernel
theorem dX19_ownAdvert_44 : decode cX19_ownAdvert 44 = .ok (.iconst 0, 1) := by decide +kernel
theorem dX19_ownAdvert_45 : decode cX19_ownAdvert 45 = .ok (.istore_n 3, 1) := by decide +kernel
theorem dX19_ownAdvert_46 : decode cX19_ownAdvert 46 = .ok (.aload_n 1, 1) := by decide +kernel
theorem dX19_ownAdvert_47 : decode cX19_ownAdvert 47 = .ok (.getfield 486, 3) := by decide +kernel
theorem dX19_ownAdvert_50 : decode cX19_ownAdvert 50 = .ok (.ifCond .ne 24, 3) := by decide +kernel
theorem dX19_ownAdvert_53 : decode cX19_ownAdvert 53 = .ok (.iload_n 2, 1) := by decide +kernel
theorem dX19_ownAdvert_54 : decode cX19_ownAdvert 54 = .ok (.iconst (-1), 1) := by decide +kernel
theorem dX19_ownAdvert_55 : decode cX19_ownAdvert 55 = .ok (.if_icmp .eq 19, 3) := by decide +kernel
theorem dX19_ownAdvert_58 : decode cX19_ownAdvert 58 = .ok (.iload_n 3, 1) := by decide +kernel
theorem dX19_ownAdvert_59 : decode cX19_ownAdvert 59 = .ok (.ifCond .ne 15, 3) := by decide +kernel
theorem dX19_ownAdvert_62 : decode cX19_ownAdvert 62 = .ok (.aload_n 1, 1) := by decide +kernel
theorem dX19_ownAdvert_63 : decode cX19_ownAdvert 63 = .ok (.getfield 512, 3) := by decide +kernel
theorem dX19_ownAdvert_66 : decode cX19_ownAdvert 66 = .ok (.aload_n 1, 1) := by decide +kernel
theorem dX19_ownAdvert_67 : decode cX19_ownAdvert 67 = .ok (.getfield 530, 3) := by decide +kernel
theorem dX19_ownAdvert_70 : decode cX19_ownAdvert 70 = .ok (.if_icmp .gt 4, 3) := by decide +kernel
theorem dX19_ownAdvert_73 : decode cX19_ownAdvert 73 = .ok (.return_, 1) := by decide +kernel
theorem dX19_ownAdvert_74 : decode cX19_ownAdvert 74 = .ok (.aload_n 1, 1) := by decide +kernel
theorem dX19_ownAdvert_75 : decode cX19_ownAdvert 75 = .ok (.iconst 0, 1) := by decide +kernel
theorem dX19_ownAdvert_76 : decode cX19_ownAdvert 76 = .ok (.putfield 486, 3) := by decide +kernel
theorem dX19_ownAdvert_79 : decode cX19_ownAdvert 79 = .ok (.aload_n 0, 1) := by decide +kernel
theorem dX19_ownAdvert_80 : decode cX19_ownAdvert 80 = .ok (.aload_n 1, 1) := by decide +kernel
theorem dX19_ownAdvert_81 : decode cX19_ownAdvert 81 = .ok (.invokevirtual 533, 3) := by decide +kernel
theorem dX19_ownAdvert_84 : decode cX19_ownAdvert 84 = .ok (.istore 4, 2) := by decide +kernel
theorem dX19_ownAdvert_86 : decode cX19_ownAdvert 86 = .ok (.iload_n 2, 1) := by decide +kernel
theorem dX19_ownAdvert_87 : decode cX19_ownAdvert 87 = .ok (.iconst (-1), 1) := by decide +kernel
theorem dX19_ownAdvert_88 : decode cX19_ownAdvert 88 = .ok (.if_icmp .eq 21, 3) := by decide +kernel
theorem dX19_ownAdvert_91 : decode cX19_ownAdvert 91 = .ok (.aload_n 0, 1) := by decide +kernel
theorem dX19_ownAdvert_92 : decode cX19_ownAdvert 92 = .ok (.getfield 65, 3) := by decide +kernel
theorem dX19_ownAdvert_95 : decode cX19_ownAdvert 95 = .ok (.bipush 76, 2) := by decide +kernel
theorem dX19_ownAdvert_97 : decode cX19_ownAdvert 97 = .ok (.iload 4, 2) := by decide +kernel
theorem dX19_ownAdvert_99 : decode cX19_ownAdvert 99 = .ok (.imul, 1) := by decide +kernel
theorem dX19_ownAdvert_100 : decode cX19_ownAdvert 100 = .ok (.iconst 1, 1) := by decide +kernel
theorem dX19_ownAdvert_101 : decode cX19_ownAdvert 101 = .ok (.iadd, 1) := by decide +kernel
theorem dX19_ownAdvert_102 : decode cX19_ownAdvert 102 = .ok (.aload_n 0, 1) := by decide +kernel
theorem dX19_ownAdvert_103 : decode cX19_ownAdvert 103 = .ok (.iload_n 2, 1) := by decide +kernel
theorem dX19_ownAdvert_104 : decode cX19_ownAdvert 104 = .ok (.iconst 1, 1) := by decide +kernel
theorem dX19_ownAdvert_105 : decode cX19_ownAdvert 105 = .ok (.invokevirtual 74, 3) := by decide +kernel
theorem dX19_ownAdvert_108 : decode cX19_ownAdvert 108 = .ok (.iastore, 1) := by decide +kernel
theorem dX19_ownAdvert_109 : decode cX19_ownAdvert 109 = .ok (.iload_n 2, 1) := by decide +kernel
theorem dX19_ownAdvert_110 : decode cX19_ownAdvert 110 = .ok (.iconst (-1), 1) := by decide +kernel
theorem dX19_ownAdvert_111 : decode cX19_ownAdvert 111 = .ok (.if_icmp .eq 35, 3) := by decide +kernel
theorem dX19_ownAdvert_114 : decode cX19_ownAdvert 114 = .ok (.aload_n 0, 1) := by decide +kernel
theorem dX19_ownAdvert_115 : decode cX19_ownAdvert 115 = .ok (.iload_n 2, 1) := by decide +kernel
theorem dX19_ownAdvert_116 : decode cX19_ownAdvert 116 = .ok (.iload 4, 2) := by decide +kernel
theorem dX19_ownAdvert_118 : decode cX19_ownAdvert 118 = .ok (.invokevirtual 537, 3) := by decide +kernel
theorem dX19_ownAdvert_121 : decode cX19_ownAdvert 121 = .ok (.ifCond .eq 25, 3) := by decide +kernel
theorem dX19_ownAdvert_124 : decode cX19_ownAdvert 124 = .ok (.iload_n 3, 1) := by decide +kernel
theorem dX19_ownAdvert_125 : decode cX19_ownAdvert 125 = .ok (.ifCond .ne 21, 3) := by decide +kernel
theorem dX19_ownAdvert_128 : decode cX19_ownAdvert 128 = .ok (.aload_n 1, 1) := by decide +kernel
theorem dX19_ownAdvert_129 : decode cX19_ownAdvert 129 = .ok (.getfield 512, 3) := by decide +kernel
theorem dX19_ownAdvert_132 : decode cX19_ownAdvert 132 = .ok (.aload_n 1, 1) := by decide +kernel
theorem dX19_ownAdvert_133 : decode cX19_ownAdvert 133 = .ok (.getfield 530, 3) := by decide +kernel
theorem dX19_ownAdvert_136 : decode cX19_ownAdvert 136 = .ok (.if_icmp .gt 10, 3) := by decide +kernel
theorem dX19_ownAdvert_139 : decode cX19_ownAdvert 139 = .ok (.aload_n 0, 1) := by decide +kernel
theorem dX19_ownAdvert_140 : decode cX19_ownAdvert 140 = .ok (.iload 4, 2) := by decide +kernel
theorem dX19_ownAdvert_142 : decode cX19_ownAdvert 142 = .ok (.invokevirtual 32, 3) := by decide +kernel
theorem dX19_ownAdvert_145 : decode cX19_ownAdvert 145 = .ok (.return_, 1) := by decide +kernel
theorem dX19_ownAdvert_146 : decode cX19_ownAdvert 146 = .ok (.aload_n 1, 1) := by decide +kernel
theorem dX19_ownAdvert_147 : decode cX19_ownAdvert 147 = .ok (.aload_n 1, 1) := by decide +kernel
theorem dX19_ownAdvert_148 : decode cX19_ownAdvert 148 = .ok (.getfield 530, 3) := by decide +kernel
theorem dX19_ownAdvert_151 : decode cX19_ownAdvert 151 = .ok (.aload_n 1, 1) := by decide +kernel
theorem dX19_ownAdvert_152 : decode cX19_ownAdvert 152 = .ok (.getfield 512, 3) := by decide +kernel
theorem dX19_ownAdvert_155 : decode cX19_ownAdvert 155 = .ok (.if_icmp .le 10, 3) := by decide +kernel
theorem dX19_ownAdvert_158 : decode cX19_ownAdvert 158 = .ok (.aload_n 1, 1) := by decide +kernel
theorem dX19_ownAdvert_159 : decode cX19_ownAdvert 159 = .ok (.getfield 530, 3) := by decide +kernel
theorem dX19_ownAdvert_162 : decode cX19_ownAdvert 162 = .ok (.goto 7, 3) := by decide +kernel
theorem dX19_ownAdvert_165 : decode cX19_ownAdvert 165 = .ok (.aload_n 1, 1) := by decide +kernel
theorem dX19_ownAdvert_166 : decode cX19_ownAdvert 166 = .ok (.getfield 512, 3) := by decide +kernel
theorem dX19_ownAdvert_169 : decode cX19_ownAdvert 169 = .ok (.iconst 1, 1) := by decide +kernel
theorem dX19_ownAdvert_170 : decode cX19_ownAdvert 170 = .ok (.iadd, 1) := by decide +kernel
theorem dX19_ownAdvert_171 : decode cX19_ownAdvert 171 = .ok (.putfield 530, 3) := by decide +kernel
theorem dX19_ownAdvert_174 : decode cX19_ownAdvert 174 = .ok (.aload_n 0, 1) := by decide +kernel
theorem dX19_ownAdvert_175 : decode cX19_ownAdvert 175 = .ok (.getfield 65, 3) := by decide +kernel
theorem dX19_ownAdvert_178 : decode cX19_ownAdvert 178 = .ok (.bipush 76, 2) := by decide +kernel
theorem dX19_ownAdvert_180 : decode cX19_ownAdvert 180 = .ok (.iload 4, 2) := by decide +kernel
theorem dX19_ownAdvert_182 : decode cX19_ownAdvert 182 = .ok (.imul, 1) := by decide +kernel
theorem dX19_ownAdvert_183 : decode cX19_ownAdvert 183 = .ok (.iconst 1, 1) := by decide +kernel
theorem dX19_ownAdvert_184 : decode cX19_ownAdvert 184 = .ok (.iadd, 1) := by decide +kernel
theorem dX19_ownAdvert_185 : decode cX19_ownAdvert 185 = .ok (.aload_n 1, 1) := by decide +kernel
theorem dX19_ownAdvert_186 : decode cX19_ownAdvert 186 = .ok (.getfield 530, 3) := by decide +kernel
theorem dX19_ownAdvert_189 : decode cX19_ownAdvert 189 = .ok (.iastore, 1) := by decide +kernel
theorem dX19_ownAdvert_190 : decode cX19_ownAdvert 190 = .ok (.aload_n 1, 1) := by decide +kernel
theorem dX19_ownAdvert_191 : decode cX19_ownAdvert 191 = .ok (.aload_n 0, 1) := by decide +kernel
theorem dX19_ownAdvert_192 : decode cX19_ownAdvert 192 = .ok (.getfield 143, 3) := by decide +kernel
theorem dX19_ownAdvert_195 : decode cX19_ownAdvert 195 = .ok (.putfield 527, 3) := by decide +kernel
theorem dX19_ownAdvert_198 : decode cX19_ownAdvert 198 = .ok (.aload_n 0, 1) := by decide +kernel
theorem dX19_ownAdvert_199 : decode cX19_ownAdvert 199 = .ok (.aload_n 1, 1) := by decide +kernel
theorem dX19_ownAdvert_200 : decode cX19_ownAdvert 200 = .ok (.iload 4, 2) := by decide +kernel
theorem dX19_ownAdvert_202 : decode cX19_ownAdvert 202 = .ok (.aconst_null, 1) := by decide +kernel
theorem dX19_ownAdvert_203 : decode cX19_ownAdvert 203 = .ok (.invokevirtual 508, 3) := by decide +kernel
theorem dX19_ownAdvert_206 : decode cX19_ownAdvert 206 = .ok (.return_, 1) := by decide +kernel
theorem dX19_greet_0 : decode cX19_greet 0 = .ok (.aload_n 1, 1) := by decide +kernel
theorem dX19_greet_1 : decode cX19_greet 1 = .ok (.getfield 276, 3) := by decide +kernel
theorem dX19_greet_4 : decode cX19_greet 4 = .ok (.iload_n 2, 1) := by decide +kernel
theorem dX19_greet_5 : decode cX19_greet 5 = .ok (.aaload, 1) := by decide +kernel
theorem dX19_greet_6 : decode cX19_greet 6 = .ok (.astore_n 3, 1) := by decide +kernel
theorem dX19_greet_7 : decode cX19_greet 7 = .ok (.iconst 0, 1) := by decide +kernel
theorem dX19_greet_8 : decode cX19_greet 8 = .ok (.istore 4, 2) := by decide +kernel
theorem dX19_greet_10 : decode cX19_greet 10 = .ok (.iconst 0, 1) := by decide +kernel
theorem dX19_greet_11 : decode cX19_greet 11 = .ok (.istore 5, 2) := by decide +kernel
theorem dX19_greet_13 : decode cX19_greet 13 = .ok (.iconst 0, 1) := by decide +kernel
theorem dX19_greet_14 : decode cX19_greet 14 = .ok (.istore 6, 2) := by decide +kernel
theorem dX19_greet_16 : decode cX19_greet 16 = .ok (.iload 6, 2) := by decide +kernel
theorem dX19_greet_18 : decode cX19_greet 18 = .ok (.aload_n 1, 1) := by decide +kernel
theorem dX19_greet_19 : decode cX19_greet 19 = .ok (.getfield 457, 3) := by decide +kernel
theorem dX19_greet_22 : decode cX19_greet 22 = .ok (.if_icmp .ge 43, 3) := by decide +kernel
theorem dX19_greet_25 : decode cX19_greet 25 = .ok (.aload_n 1, 1) := by decide +kernel
theorem dX19_greet_26 : decode cX19_greet 26 = .ok (.getfield 460, 3) := by decide +kernel
theorem dX19_greet_29 : decode cX19_greet 29 = .ok (.iload 6, 2) := by decide +kernel
theorem dX19_greet_31 : decode cX19_greet 31 = .ok (.aaload, 1) := by decide +kernel
theorem dX19_greet_32 : decode cX19_greet 32 = .ok (.getfield 464, 3) := by decide +kernel
theorem dX19_greet_35 : decode cX19_greet 35 = .ok (.iload_n 2, 1) := by decide +kernel
theorem dX19_greet_36 : decode cX19_greet 36 = .ok (.if_icmp .ne 23, 3) := by decide +kernel
theorem dX19_greet_39 : decode cX19_greet 39 = .ok (.iload 4, 2) := by decide +kernel
theorem dX19_greet_41 : decode cX19_greet 41 = .ok (.iconst 1, 1) := by decide +kernel
theorem dX19_greet_42 : decode cX19_greet 42 = .ok (.aload_n 1, 1) := by decide +kernel
theorem dX19_greet_43 : decode cX19_greet 43 = .ok (.getfield 460, 3) := by decide +kernel
theorem dX19_greet_46 : decode cX19_greet 46 = .ok (.iload 6, 2) := by decide +kernel
theorem dX19_greet_48 : decode cX19_greet 48 = .ok (.aaload, 1) := by decide +kernel
theorem dX19_greet_49 : decode cX19_greet 49 = .ok (.getfield 467, 3) := by decide +kernel
theorem dX19_greet_52 : decode cX19_greet 52 = .ok (.ishl, 1) := by decide +kernel
theorem dX19_greet_53 : decode cX19_greet 53 = .ok (.ior, 1) := by decide +kernel
theorem dX19_greet_54 : decode cX19_greet 54 = .ok (.istore 4, 2) := by decide +kernel
theorem dX19_greet_56 : decode cX19_greet 56 = .ok (.iinc 5 1, 3) := by decide +kernel
theorem dX19_greet_59 : decode cX19_greet 59 = .ok (.iinc 6 1, 3) := by decide +kernel
theorem dX19_greet_62 : decode cX19_greet 62 = .ok (.goto (-46), 3) := by decide +kernel
theorem dX19_greet_65 : decode cX19_greet 65 = .ok (.aload_n 0, 1) := by decide +kernel
theorem dX19_greet_66 : decode cX19_greet 66 = .ok (.aload_n 1, 1) := by decide +kernel
theorem dX19_greet_67 : decode cX19_greet 67 = .ok (.iconst 2, 1) := by decide +kernel
theorem dX19_greet_68 : decode cX19_greet 68 = .ok (.bipush 8, 2) := by decide +kernel
theorem dX19_greet_70 : decode cX19_greet 70 = .ok (.iconst 2, 1) := by decide +kernel
theorem dX19_greet_71 : decode cX19_greet 71 = .ok (.iload 5, 2) := by decide +kernel
theorem dX19_greet_73 : decode cX19_greet 73 = .ok (.imul, 1) := by decide +kernel
theorem dX19_greet_74 : decode cX19_greet 74 = .ok (.iadd, 1) := by decide +kernel
theorem dX19_greet_75 : decode cX19_greet 75 = .ok (.aload_n 3, 1) := by decide +kernel
theorem dX19_greet_76 : decode cX19_greet 76 = .ok (.invokevirtual 280, 3) := by decide +kernel
theorem dX19_greet_79 : decode cX19_greet 79 = .ok (.iconst 0, 1) := by decide +kernel
theorem dX19_greet_80 : decode cX19_greet 80 = .ok (.invokevirtual 329, 3) := by decide +kernel
theorem dX19_greet_83 : decode cX19_greet 83 = .ok (.istore 6, 2) := by decide +kernel
theorem dX19_greet_85 : decode cX19_greet 85 = .ok (.aload_n 0, 1) := by decide +kernel
theorem dX19_greet_86 : decode cX19_greet 86 = .ok (.iload 6, 2) := by decide +kernel
theorem dX19_greet_88 : decode cX19_greet 88 = .ok (.bipush 12, 2) := by decide +kernel
theorem dX19_greet_90 : decode cX19_greet 90 = .ok (.aload_n 1, 1) := by decide +kernel
theorem dX19_greet_91 : decode cX19_greet 91 = .ok (.getfield 310, 3) := by decide +kernel
theorem dX19_greet_94 : decode cX19_greet 94 = .ok (.invokevirtual 14, 3) := by decide +kernel
theorem dX19_greet_97 : decode cX19_greet 97 = .ok (.aload_n 0, 1) := by decide +kernel
theorem dX19_greet_98 : decode cX19_greet 98 = .ok (.iload 6, 2) := by decide +kernel
theorem dX19_greet_100 : decode cX19_greet 100 = .ok (.bipush 13, 2) := by decide +kernel
theorem dX19_greet_102 : decode cX19_greet 102 = .ok (.iload 4, 2) := by decide +kernel
theorem dX19_greet_104 : decode cX19_greet 104 = .ok (.invokevirtual 14, 3) := by decide +kernel
theorem dX19_greet_107 : decode cX19_greet 107 = .ok (.aload_n 0, 1) := by decide +kernel
theorem dX19_greet_108 : decode cX19_greet 108 = .ok (.aload_n 3, 1) := by decide +kernel
theorem dX19_greet_109 : decode cX19_greet 109 = .ok (.iconst (-1), 1) := by decide +kernel
theorem dX19_greet_110 : decode cX19_greet 110 = .ok (.iload 6, 2) := by decide +kernel
theorem dX19_greet_112 : decode cX19_greet 112 = .ok (.invokevirtual 215, 3) := by decide +kernel
theorem dX19_greet_115 : decode cX19_greet 115 = .ok (.aload_n 0, 1) := by decide +kernel
theorem dX19_greet_116 : decode cX19_greet 116 = .ok (.iload 6, 2) := by decide +kernel
theorem dX19_greet_118 : decode cX19_greet 118 = .ok (.invokevirtual 204, 3) := by decide +kernel
theorem dX19_greet_121 : decode cX19_greet 121 = .ok (.return_, 1) := by decide +kernel
theorem dX19_routerSpeaks_0 : decode cX19_routerSpeaks 0 = .ok (.iconst 0, 1) := by decide +kernel
theorem dX19_routerSpeaks_1 : decode cX19_routerSpeaks 1 = .ok (.istore_n 2, 1) := by decide +kernel
theorem dX19_routerSpeaks_2 : decode cX19_routerSpeaks 2 = .ok (.iload_n 2, 1) := by decide +kernel
theorem dX19_routerSpeaks_3 : decode cX19_routerSpeaks 3 = .ok (.aload_n 1, 1) := by decide +kernel
theorem dX19_routerSpeaks_4 : decode cX19_routerSpeaks 4 = .ok (.getfield 273, 3) := by decide +kernel
theorem dX19_routerSpeaks_7 : decode cX19_routerSpeaks 7 = .ok (.if_icmp .ge 37, 3) := by decide +kernel
theorem dX19_routerSpeaks_10 : decode cX19_routerSpeaks 10 = .ok (.aload_n 0, 1) := by decide +kernel
theorem dX19_routerSpeaks_11 : decode cX19_routerSpeaks 11 = .ok (.getfield 143, 3) := by decide +kernel
theorem dX19_routerSpeaks_14 : decode cX19_routerSpeaks 14 = .ok (.bipush 20, 2) := by decide +kernel
theorem dX19_routerSpeaks_16 : decode cX19_routerSpeaks 16 = .ok (.irem, 1) := by decide +kernel
theorem dX19_routerSpeaks_17 : decode cX19_routerSpeaks 17 = .ok (.ifCond .ne 27, 3) := by decide +kernel
theorem dX19_routerSpeaks_20 : decode cX19_routerSpeaks 20 = .ok (.aload_n 1, 1) := by decide +kernel
theorem dX19_routerSpeaks_21 : decode cX19_routerSpeaks 21 = .ok (.getfield 276, 3) := by decide +kernel
theorem dX19_routerSpeaks_24 : decode cX19_routerSpeaks 24 = .ok (.iload_n 2, 1) := by decide +kernel
theorem dX19_routerSpeaks_25 : decode cX19_routerSpeaks 25 = .ok (.aaload, 1) := by decide +kernel
theorem dX19_routerSpeaks_26 : decode cX19_routerSpeaks 26 = .ok (.getfield 479, 3) := by decide +kernel
theorem dX19_routerSpeaks_29 : decode cX19_routerSpeaks 29 = .ok (.ifCond .eq 9, 3) := by decide +kernel
theorem dX19_routerSpeaks_32 : decode cX19_routerSpeaks 32 = .ok (.aload_n 0, 1) := by decide +kernel
theorem dX19_routerSpeaks_33 : decode cX19_routerSpeaks 33 = .ok (.aload_n 1, 1) := by decide +kernel
theorem dX19_routerSpeaks_34 : decode cX19_routerSpeaks 34 = .ok (.iload_n 2, 1) := by decide +kernel
theorem dX19_routerSpeaks_35 : decode cX19_routerSpeaks 35 = .ok (.invokevirtual 540, 3) := by decide +kernel
theorem dX19_routerSpeaks_38 : decode cX19_routerSpeaks 38 = .ok (.iinc 2 1, 3) := by decide +kernel
theorem dX19_routerSpeaks_41 : decode cX19_routerSpeaks 41 = .ok (.goto (-39), 3) := by decide +kernel
theorem dX19_routerSpeaks_44 : decode cX19_routerSpeaks 44 = .ok (.aload_n 1, 1) := by decide +kernel
theorem dX19_routerSpeaks_45 : decode cX19_routerSpeaks 45 = .ok (.getfield 492, 3) := by decide +kernel
theorem dX19_routerSpeaks_48 : decode cX19_routerSpeaks 48 = .ok (.istore_n 2, 1) := by decide +kernel
theorem dX19_routerSpeaks_49 : decode cX19_routerSpeaks 49 = .ok (.iconst 0, 1) := by decide +kernel
theorem dX19_routerSpeaks_50 : decode cX19_routerSpeaks 50 = .ok (.istore_n 3, 1) := by decide +kernel
theorem dX19_routerSpeaks_51 : decode cX19_routerSpeaks 51 = .ok (.iload_n 3, 1) := by decide +kernel
theorem dX19_routerSpeaks_52 : decode cX19_routerSpeaks 52 = .ok (.iload_n 2, 1) := by decide +kernel
theorem dX19_routerSpeaks_53 : decode cX19_routerSpeaks 53 = .ok (.if_icmp .ge 95, 3) := by decide +kernel
theorem dX19_routerSpeaks_56 : decode cX19_routerSpeaks 56 = .ok (.aload_n 1, 1) := by decide +kernel
theorem dX19_routerSpeaks_57 : decode cX19_routerSpeaks 57 = .ok (.getfield 276, 3) := by decide +kernel
theorem dX19_routerSpeaks_60 : decode cX19_routerSpeaks 60 = .ok (.aload_n 1, 1) := by decide +kernel
theorem dX19_routerSpeaks_61 : decode cX19_routerSpeaks 61 = .ok (.getfield 495, 3) := by decide +kernel
theorem dX19_routerSpeaks_64 : decode cX19_routerSpeaks 64 = .ok (.iload_n 3, 1) := by decide +kernel
theorem dX19_routerSpeaks_65 : decode cX19_routerSpeaks 65 = .ok (.iaload, 1) := by decide +kernel
theorem dX19_routerSpeaks_66 : decode cX19_routerSpeaks 66 = .ok (.aaload, 1) := by decide +kernel
theorem dX19_routerSpeaks_67 : decode cX19_routerSpeaks 67 = .ok (.astore 4, 2) := by decide +kernel
theorem dX19_routerSpeaks_69 : decode cX19_routerSpeaks 69 = .ok (.aload_n 0, 1) := by decide +kernel
theorem dX19_routerSpeaks_70 : decode cX19_routerSpeaks 70 = .ok (.aload_n 1, 1) := by decide +kernel
theorem dX19_routerSpeaks_71 : decode cX19_routerSpeaks 71 = .ok (.iconst 4, 1) := by decide +kernel
theorem dX19_routerSpeaks_72 : decode cX19_routerSpeaks 72 = .ok (.bipush 8, 2) := by decide +kernel
theorem dX19_routerSpeaks_74 : decode cX19_routerSpeaks 74 = .ok (.aload 4, 2) := by decide +kernel
theorem dX19_routerSpeaks_76 : decode cX19_routerSpeaks 76 = .ok (.invokevirtual 280, 3) := by decide +kernel
theorem dX19_routerSpeaks_79 : decode cX19_routerSpeaks 79 = .ok (.aload_n 1, 1) := by decide +kernel
theorem dX19_routerSpeaks_80 : decode cX19_routerSpeaks 80 = .ok (.getfield 498, 3) := by decide +kernel
theorem dX19_routerSpeaks_83 : decode cX19_routerSpeaks 83 = .ok (.iload_n 3, 1) := by decide +kernel
theorem dX19_routerSpeaks_84 : decode cX19_routerSpeaks 84 = .ok (.iaload, 1) := by decide +kernel
theorem dX19_routerSpeaks_85 : decode cX19_routerSpeaks 85 = .ok (.invokevirtual 329, 3) := by decide +kernel
theorem dX19_routerSpeaks_88 : decode cX19_routerSpeaks 88 = .ok (.istore 5, 2) := by decide +kernel
theorem dX19_routerSpeaks_90 : decode cX19_routerSpeaks 90 = .ok (.aload_n 0, 1) := by decide +kernel
theorem dX19_routerSpeaks_91 : decode cX19_routerSpeaks 91 = .ok (.iload 5, 2) := by decide +kernel
theorem dX19_routerSpeaks_93 : decode cX19_routerSpeaks 93 = .ok (.bipush 12, 2) := by decide +kernel
theorem dX19_routerSpeaks_95 : decode cX19_routerSpeaks 95 = .ok (.aload_n 1, 1) := by decide +kernel
theorem dX19_routerSpeaks_96 : decode cX19_routerSpeaks 96 = .ok (.getfield 310, 3) := by decide +kernel
theorem dX19_routerSpeaks_99 : decode cX19_routerSpeaks 99 = .ok (.invokevirtual 14, 3) := by decide +kernel
theorem dX19_routerSpeaks_102 : decode cX19_routerSpeaks 102 = .ok (.aload_n 0, 1) := by decide +kernel
theorem dX19_routerSpeaks_103 : decode cX19_routerSpeaks 103 = .ok (.iload 5, 2) := by decide +kernel
theorem dX19_routerSpeaks_105 : decode cX19_routerSpeaks 105 = .ok (.bipush 13, 2) := by decide +kernel
theorem dX19_routerSpeaks_107 : decode cX19_routerSpeaks 107 = .ok (.aload_n 1, 1) := by decide +kernel
theorem dX19_routerSpeaks_108 : decode cX19_routerSpeaks 108 = .ok (.getfield 501, 3) := by decide +kernel
theorem dX19_routerSpeaks_111 : decode cX19_routerSpeaks 111 = .ok (.iload_n 3, 1) := by decide +kernel
theorem dX19_routerSpeaks_112 : decode cX19_routerSpeaks 112 = .ok (.iaload, 1) := by decide +kernel
theorem dX19_routerSpeaks_113 : decode cX19_routerSpeaks 113 = .ok (.invokevirtual 14, 3) := by decide +kernel
theorem dX19_routerSpeaks_116 : decode cX19_routerSpeaks 116 = .ok (.aload_n 0, 1) := by decide +kernel
theorem dX19_routerSpeaks_117 : decode cX19_routerSpeaks 117 = .ok (.aload 4, 2) := by decide +kernel
theorem dX19_routerSpeaks_119 : decode cX19_routerSpeaks 119 = .ok (.aload_n 1, 1) := by decide +kernel
theorem dX19_routerSpeaks_120 : decode cX19_routerSpeaks 120 = .ok (.getfield 498, 3) := by decide +kernel
theorem dX19_routerSpeaks_123 : decode cX19_routerSpeaks 123 = .ok (.iload_n 3, 1) := by decide +kernel
theorem dX19_routerSpeaks_124 : decode cX19_routerSpeaks 124 = .ok (.iaload, 1) := by decide +kernel
theorem dX19_routerSpeaks_125 : decode cX19_routerSpeaks 125 = .ok (.ldc_w 269, 3) := by decide +kernel
theorem dX19_routerSpeaks_128 : decode cX19_routerSpeaks 128 = .ok (.iand, 1) := by decide +kernel
theorem dX19_routerSpeaks_129 : decode cX19_routerSpeaks 129 = .ok (.iconst 1, 1) := by decide +kernel
theorem dX19_routerSpeaks_130 : decode cX19_routerSpeaks 130 = .ok (.isub, 1) := by decide +kernel
theorem dX19_routerSpeaks_131 : decode cX19_routerSpeaks 131 = .ok (.iload 5, 2) := by decide +kernel
theorem dX19_routerSpeaks_133 : decode cX19_routerSpeaks 133 = .ok (.invokevirtual 289, 3) := by decide +kernel
theorem dX19_routerSpeaks_136 : decode cX19_routerSpeaks 136 = .ok (.aload_n 0, 1) := by decide +kernel
theorem dX19_routerSpeaks_137 : decode cX19_routerSpeaks 137 = .ok (.iload 5, 2) := by decide +kernel
theorem dX19_routerSpeaks_139 : decode cX19_routerSpeaks 139 = .ok (.invokevirtual 204, 3) := by decide +kernel
theorem dX19_routerSpeaks_142 : decode cX19_routerSpeaks 142 = .ok (.iinc 3 1, 3) := by decide +kernel
theorem dX19_routerSpeaks_145 : decode cX19_routerSpeaks 145 = .ok (.goto (-94), 3) := by decide +kernel
theorem dX19_routerSpeaks_148 : decode cX19_routerSpeaks 148 = .ok (.aload_n 1, 1) := by decide +kernel
theorem dX19_routerSpeaks_149 : decode cX19_routerSpeaks 149 = .ok (.iconst 0, 1) := by decide +kernel
theorem dX19_routerSpeaks_150 : decode cX19_routerSpeaks 150 = .ok (.putfield 492, 3) := by decide +kernel
theorem dX19_routerSpeaks_153 : decode cX19_routerSpeaks 153 = .ok (.iconst 0, 1) := by decide +kernel
theorem dX19_routerSpeaks_154 : decode cX19_routerSpeaks 154 = .ok (.istore_n 3, 1) := by decide +kernel
theorem dX19_routerSpeaks_155 : decode cX19_routerSpeaks 155 = .ok (.iload_n 3, 1) := by decide +kernel
theorem dX19_routerSpeaks_156 : decode cX19_routerSpeaks 156 = .ok (.aload_n 1, 1) := by decide +kernel
theorem dX19_routerSpeaks_157 : decode cX19_routerSpeaks 157 = .ok (.getfield 457, 3) := by decide +kernel
theorem dX19_routerSpeaks_160 : decode cX19_routerSpeaks 160 = .ok (.if_icmp .ge 107, 3) := by decide +kernel
theorem dX19_routerSpeaks_163 : decode cX19_routerSpeaks 163 = .ok (.aload_n 1, 1) := by decide +kernel
theorem dX19_routerSpeaks_164 : decode cX19_routerSpeaks 164 = .ok (.getfield 460, 3) := by decide +kernel
theorem dX19_routerSpeaks_167 : decode cX19_routerSpeaks 167 = .ok (.iload_n 3, 1) := by decide +kernel
theorem dX19_routerSpeaks_168 : decode cX19_routerSpeaks 168 = .ok (.aaload, 1) := by decide +kernel
theorem dX19_routerSpeaks_169 : decode cX19_routerSpeaks 169 = .ok (.astore 4, 2) := by decide +kernel
theorem dX19_routerSpeaks_171 : decode cX19_routerSpeaks 171 = .ok (.iconst 0, 1) := by decide +kernel
theorem dX19_routerSpeaks_172 : decode cX19_routerSpeaks 172 = .ok (.istore 5, 2) := by decide +kernel
theorem dX19_routerSpeaks_174 : decode cX19_routerSpeaks 174 = .ok (.aload 4, 2) := by decide +kernel
theorem dX19_routerSpeaks_176 : decode cX19_routerSpeaks 176 = .ok (.getfield 473, 3) := by decide +kernel
theorem dX19_routerSpeaks_179 : decode cX19_routerSpeaks 179 = .ok (.ifCond .eq 82, 3) := by decide +kernel
theorem dX19_routerSpeaks_182 : decode cX19_routerSpeaks 182 = .ok (.iload 5, 2) := by decide +kernel
theorem dX19_routerSpeaks_184 : decode cX19_routerSpeaks 184 = .ok (.bipush 16, 2) := by decide +kernel
theorem dX19_routerSpeaks_186 : decode cX19_routerSpeaks 186 = .ok (.if_icmp .ge 75, 3) := by decide +kernel
theorem dX19_routerSpeaks_189 : decode cX19_routerSpeaks 189 = .ok (.aload 4, 2) := by decide +kernel
theorem dX19_routerSpeaks_191 : decode cX19_routerSpeaks 191 = .ok (.getfield 452, 3) := by decide +kernel
theorem dX19_routerSpeaks_194 : decode cX19_routerSpeaks 194 = .ok (.iload 5, 2) := by decide +kernel
theorem dX19_routerSpeaks_196 : decode cX19_routerSpeaks 196 = .ok (.baload, 1) := by decide +kernel
theorem dX19_routerSpeaks_197 : decode cX19_routerSpeaks 197 = .ok (.ifCond .eq 58, 3) := by decide +kernel
theorem dX19_routerSpeaks_200 : decode cX19_routerSpeaks 200 = .ok (.aload_n 1, 1) := by decide +kernel
theorem dX19_routerSpeaks_201 : decode cX19_routerSpeaks 201 = .ok (.getfield 448, 3) := by decide +kernel
theorem dX19_routerSpeaks_204 : decode cX19_routerSpeaks 204 = .ok (.iload 5, 2) := by decide +kernel
theorem dX19_routerSpeaks_206 : decode cX19_routerSpeaks 206 = .ok (.iaload, 1) := by decide +kernel
theorem dX19_routerSpeaks_207 : decode cX19_routerSpeaks 207 = .ok (.iconst (-1), 1) := by decide +kernel
theorem dX19_routerSpeaks_208 : decode cX19_routerSpeaks 208 = .ok (.if_icmp .eq 47, 3) := by decide +kernel
theorem dX19_routerSpeaks_211 : decode cX19_routerSpeaks 211 = .ok (.aload_n 0, 1) := by decide +kernel
theorem dX19_routerSpeaks_212 : decode cX19_routerSpeaks 212 = .ok (.getfield 143, 3) := by decide +kernel
theorem dX19_routerSpeaks_215 : decode cX19_routerSpeaks 215 = .ok (.aload 4, 2) := by decide +kernel
theorem dX19_routerSpeaks_217 : decode cX19_routerSpeaks 217 = .ok (.getfield 476, 3) := by decide +kernel
theorem dX19_routerSpeaks_220 : decode cX19_routerSpeaks 220 = .ok (.iload 5, 2) := by decide +kernel
theorem dX19_routerSpeaks_222 : decode cX19_routerSpeaks 222 = .ok (.iaload, 1) := by decide +kernel
theorem dX19_routerSpeaks_223 : decode cX19_routerSpeaks 223 = .ok (.if_icmp .lt 32, 3) := by decide +kernel
theorem dX19_routerSpeaks_226 : decode cX19_routerSpeaks 226 = .ok (.aload 4, 2) := by decide +kernel
theorem dX19_routerSpeaks_228 : decode cX19_routerSpeaks 228 = .ok (.getfield 476, 3) := by decide +kernel
theorem dX19_routerSpeaks_231 : decode cX19_routerSpeaks 231 = .ok (.iload 5, 2) := by decide +kernel
theorem dX19_routerSpeaks_233 : decode cX19_routerSpeaks 233 = .ok (.aload_n 0, 1) := by decide +kernel
theorem dX19_routerSpeaks_234 : decode cX19_routerSpeaks 234 = .ok (.getfield 143, 3) := by decide +kernel
theorem dX19_routerSpeaks_237 : decode cX19_routerSpeaks 237 = .ok (.bipush 15, 2) := by decide +kernel
theorem dX19_routerSpeaks_239 : decode cX19_routerSpeaks 239 = .ok (.iadd, 1) := by decide +kernel
theorem dX19_routerSpeaks_240 : decode cX19_routerSpeaks 240 = .ok (.iastore, 1) := by decide +kernel
theorem dX19_routerSpeaks_241 : decode cX19_routerSpeaks 241 = .ok (.aload_n 0, 1) := by decide +kernel
theorem dX19_routerSpeaks_242 : decode cX19_routerSpeaks 242 = .ok (.aload_n 1, 1) := by decide +kernel
theorem dX19_routerSpeaks_243 : decode cX19_routerSpeaks 243 = .ok (.aload 4, 2) := by decide +kernel
theorem dX19_routerSpeaks_245 : decode cX19_routerSpeaks 245 = .ok (.aload_n 1, 1) := by decide +kernel
theorem dX19_routerSpeaks_246 : decode cX19_routerSpeaks 246 = .ok (.getfield 448, 3) := by decide +kernel
theorem dX19_routerSpeaks_249 : decode cX19_routerSpeaks 249 = .ok (.iload 5, 2) := by decide +kernel
theorem dX19_routerSpeaks_251 : decode cX19_routerSpeaks 251 = .ok (.iaload, 1) := by decide +kernel
theorem dX19_routerSpeaks_252 : decode cX19_routerSpeaks 252 = .ok (.invokevirtual 543, 3) := by decide +kernel
theorem dX19_routerSpeaks_255 : decode cX19_routerSpeaks 255 = .ok (.iinc 5 1, 3) := by decide +kernel
theorem dX19_routerSpeaks_258 : decode cX19_routerSpeaks 258 = .ok (.goto (-84), 3) := by decide +kernel
theorem dX19_routerSpeaks_261 : decode cX19_routerSpeaks 261 = .ok (.iinc 3 1, 3) := by decide +kernel
theorem dX19_routerSpeaks_264 : decode cX19_routerSpeaks 264 = .ok (.goto (-109), 3) := by decide +kernel
theorem dX19_routerSpeaks_267 : decode cX19_routerSpeaks 267 = .ok (.return_, 1) := by decide +kernel
