theorem dX5_init_0 : decode cX5_init 0 = .ok (.aload_n 0, 1) := by decide +kernel
theorem dX5_init_1 : decode cX5_init 1 = .ok (.invokespecial 1, 3) := by decide +kernel
theorem dX5_init_4 : decode cX5_init 4 = .ok (.aload_n 0, 1) := by decide +kernel
theorem dX5_init_5 : decode cX5_init 5 = .ok (.sipush 5200, 3) := by decide +kernel
theorem dX5_init_8 : decode cX5_init 8 = .ok (.newarray .int, 2) := by decide +kernel
theorem dX5_init_10 : decode cX5_init 10 = .ok (.putfield 7, 3) := by decide +kernel
theorem dX5_init_13 : decode cX5_init 13 = .ok (.aload_n 0, 1) := by decide +kernel
theorem dX5_init_14 : decode cX5_init 14 = .ok (.iconst 4, 1) := by decide +kernel
theorem dX5_init_15 : decode cX5_init 15 = .ok (.newarray .int, 2) := by decide +kernel
theorem dX5_init_17 : decode cX5_init 17 = .ok (.putfield 13, 3) := by decide +kernel
theorem dX5_init_20 : decode cX5_init 20 = .ok (.aload_n 0, 1) := by decide +kernel
theorem dX5_init_21 : decode cX5_init 21 = .ok (.iconst 4, 1) := by decide +kernel
theorem dX5_init_22 : decode cX5_init 22 = .ok (.newarray .int, 2) := by decide +kernel
theorem dX5_init_24 : decode cX5_init 24 = .ok (.putfield 16, 3) := by decide +kernel
theorem dX5_init_27 : decode cX5_init 27 = .ok (.aload_n 0, 1) := by decide +kernel
theorem dX5_init_28 : decode cX5_init 28 = .ok (.iconst 4, 1) := by decide +kernel
theorem dX5_init_29 : decode cX5_init 29 = .ok (.newarray .int, 2) := by decide +kernel
theorem dX5_init_31 : decode cX5_init 31 = .ok (.putfield 19, 3) := by decide +kernel
theorem dX5_init_34 : decode cX5_init 34 = .ok (.aload_n 0, 1) := by decide +kernel
theorem dX5_init_35 : decode cX5_init 35 = .ok (.iconst 4, 1) := by decide +kernel
theorem dX5_init_36 : decode cX5_init 36 = .ok (.newarray .int, 2) := by decide +kernel
theorem dX5_init_38 : decode cX5_init 38 = .ok (.putfield 22, 3) := by decide +kernel
theorem dX5_init_41 : decode cX5_init 41 = .ok (.aload_n 0, 1) := by decide +kernel
theorem dX5_init_42 : decode cX5_init 42 = .ok (.iconst 4, 1) := by decide +kernel
theorem dX5_init_43 : decode cX5_init 43 = .ok (.newarray .int, 2) := by decide +kernel
theorem dX5_init_45 : decode cX5_init 45 = .ok (.putfield 25, 3) := by decide +kernel
theorem dX5_init_48 : decode cX5_init 48 = .ok (.aload_n 0, 1) := by decide +kernel
theorem dX5_init_49 : decode cX5_init 49 = .ok (.iconst 4, 1) := by decide +kernel
theorem dX5_init_50 : decode cX5_init 50 = .ok (.newarray .int, 2) := by decide +kernel
theorem dX5_init_52 : decode cX5_init 52 = .ok (.putfield 28, 3) := by decide +kernel
theorem dX5_init_55 : decode cX5_init 55 = .ok (.aload_n 0, 1) := by decide +kernel
theorem dX5_init_56 : decode cX5_init 56 = .ok (.iconst 4, 1) := by decide +kernel
theorem dX5_init_57 : decode cX5_init 57 = .ok (.newarray .int, 2) := by decide +kernel
theorem dX5_init_59 : decode cX5_init 59 = .ok (.putfield 31, 3) := by decide +kernel
theorem dX5_init_62 : decode cX5_init 62 = .ok (.aload_n 0, 1) := by decide +kernel
theorem dX5_init_63 : decode cX5_init 63 = .ok (.iconst 4, 1) := by decide +kernel
theorem dX5_init_64 : decode cX5_init 64 = .ok (.newarray .int, 2) := by decide +kernel
theorem dX5_init_66 : decode cX5_init 66 = .ok (.putfield 34, 3) := by decide +kernel
theorem dX5_init_69 : decode cX5_init 69 = .ok (.aload_n 0, 1) := by decide +kernel
theorem dX5_init_70 : decode cX5_init 70 = .ok (.sipush 160, 3) := by decide +kernel
theorem dX5_init_73 : decode cX5_init 73 = .ok (.newarray .int, 2) := by decide +kernel
theorem dX5_init_75 : decode cX5_init 75 = .ok (.putfield 37, 3) := by decide +kernel
theorem dX5_init_78 : decode cX5_init 78 = .ok (.return_, 1) := by decide +kernel
theorem dX5_in_0 : decode cX5_in 0 = .ok (.lload_n 0, 1) := by decide +kernel
theorem dX5_in_1 : decode cX5_in 1 = .ok (.lload_n 2, 1) := by decide +kernel
theorem dX5_in_2 : decode cX5_in 2 = .ok (.lcmp, 1) := by decide +kernel
theorem dX5_in_3 : decode cX5_in 3 = .ok (.ifCond .lt 14, 3) := by decide +kernel
theorem dX5_in_6 : decode cX5_in 6 = .ok (.lload_n 0, 1) := by decide +kernel
theorem dX5_in_7 : decode cX5_in 7 = .ok (.lload 4, 2) := by decide +kernel
theorem dX5_in_9 : decode cX5_in 9 = .ok (.lcmp, 1) := by decide +kernel
theorem dX5_in_10 : decode cX5_in 10 = .ok (.ifCond .gt 7, 3) := by decide +kernel
theorem dX5_in_13 : decode cX5_in 13 = .ok (.iconst 1, 1) := by decide +kernel
theorem dX5_in_14 : decode cX5_in 14 = .ok (.goto 4, 3) := by decide +kernel
theorem dX5_in_17 : decode cX5_in 17 = .ok (.iconst 0, 1) := by decide +kernel
theorem dX5_in_18 : decode cX5_in 18 = .ok (.ireturn, 1) := by decide +kernel
theorem dX5_copies_0 : decode cX5_copies 0 = .ok (.iconst 0, 1) := by decide +kernel
theorem dX5_copies_1 : decode cX5_copies 1 = .ok (.istore_n 3, 1) := by decide +kernel
theorem dX5_copies_2 : decode cX5_copies 2 = .ok (.iload_n 3, 1) := by decide +kernel
theorem dX5_copies_3 : decode cX5_copies 3 = .ok (.sipush 400, 3) := by decide +kernel
theorem dX5_copies_6 : decode cX5_copies 6 = .ok (.if_icmp .ge 33, 3) := by decide +kernel
theorem dX5_copies_9 : decode cX5_copies 9 = .ok (.aload_n 0, 1) := by decide +kernel
theorem dX5_copies_10 : decode cX5_copies 10 = .ok (.getfield 7, 3) := by decide +kernel
theorem dX5_copies_13 : decode cX5_copies 13 = .ok (.sipush 400, 3) := by decide +kernel
theorem dX5_copies_16 : decode cX5_copies 16 = .ok (.iload_n 2, 1) := by decide +kernel
theorem dX5_copies_17 : decode cX5_copies 17 = .ok (.imul, 1) := by decide +kernel
theorem dX5_copies_18 : decode cX5_copies 18 = .ok (.iload_n 3, 1) := by decide +kernel
theorem dX5_copies_19 : decode cX5_copies 19 = .ok (.iadd, 1) := by decide +kernel
theorem dX5_copies_20 : decode cX5_copies 20 = .ok (.aload_n 0, 1) := by decide +kernel
theorem dX5_copies_21 : decode cX5_copies 21 = .ok (.getfield 7, 3) := by decide +kernel
theorem dX5_copies_24 : decode cX5_copies 24 = .ok (.sipush 400, 3) := by decide +kernel
theorem dX5_copies_27 : decode cX5_copies 27 = .ok (.iload_n 1, 1) := by decide +kernel
theorem dX5_copies_28 : decode cX5_copies 28 = .ok (.imul, 1) := by decide +kernel
theorem dX5_copies_29 : decode cX5_copies 29 = .ok (.iload_n 3, 1) := by decide +kernel
theorem dX5_copies_30 : decode cX5_copies 30 = .ok (.iadd, 1) := by decide +kernel
theorem dX5_copies_31 : decode cX5_copies 31 = .ok (.iaload, 1) := by decide +kernel
theorem dX5_copies_32 : decode cX5_copies 32 = .ok (.iastore, 1) := by decide +kernel
theorem dX5_copies_33 : decode cX5_copies 33 = .ok (.iinc 3 1, 3) := by decide +kernel
theorem dX5_copies_36 : decode cX5_copies 36 = .ok (.goto (-34), 3) := by decide +kernel
theorem dX5_copies_39 : decode cX5_copies 39 = .ok (.return_, 1) := by decide +kernel
theorem dX5_of_0 : decode cX5_of 0 = .ok (.aload_n 0, 1) := by decide +kernel
theorem dX5_of_1 : decode cX5_of 1 = .ok (.getfield 7, 3) := by decide +kernel
theorem dX5_of_4 : decode cX5_of 4 = .ok (.sipush 400, 3) := by decide +kernel
theorem dX5_of_7 : decode cX5_of 7 = .ok (.iload_n 1, 1) := by decide +kernel
theorem dX5_of_8 : decode cX5_of 8 = .ok (.imul, 1) := by decide +kernel
theorem dX5_of_9 : decode cX5_of 9 = .ok (.iload_n 2, 1) := by decide +kernel
theorem dX5_of_10 : decode cX5_of 10 = .ok (.iadd, 1) := by decide +kernel
theorem dX5_of_11 : decode cX5_of 11 = .ok (.iaload, 1) := by decide +kernel
theorem dX5_of_12 : decode cX5_of 12 = .ok (.ireturn, 1) := by decide +kernel
theorem dX5_lays_0 : decode cX5_lays 0 = .ok (.aload_n 0, 1) := by decide +kernel
theorem dX5_lays_1 : decode cX5_lays 1 = .ok (.getfield 7, 3) := by decide +kernel
theorem dX5_lays_4 : decode cX5_lays 4 = .ok (.sipush 400, 3) := by decide +kernel
theorem dX5_lays_7 : decode cX5_lays 7 = .ok (.iload_n 1, 1) := by decide +kernel
theorem dX5_lays_8 : decode cX5_lays 8 = .ok (.imul, 1) := by decide +kernel
theorem dX5_lays_9 : decode cX5_lays 9 = .ok (.iload_n 2, 1) := by decide +kernel
theorem dX5_lays_10 : decode cX5_lays 10 = .ok (.iadd, 1) := by decide +kernel
theorem dX5_lays_11 : decode cX5_lays 11 = .ok (.iload_n 3, 1) := by decide +kernel
theorem dX5_lays_12 : decode cX5_lays 12 = .ok (.iastore, 1) := by decide +kernel
theorem dX5_lays_13 : decode cX5_lays 13 = .ok (.return_, 1) := by decide +kernel
theorem dX5_at_0 : decode cX5_at 0 = .ok (.sipush 400, 3) := by decide +kernel
theorem dX5_at_3 : decode cX5_at 3 = .ok (.iload_n 0, 1) := by decide +kernel
theorem dX5_at_4 : decode cX5_at 4 = .ok (.imul, 1) := by decide +kernel
theorem dX5_at_5 : decode cX5_at 5 = .ok (.bipush 8, 2) := by decide +kernel
theorem dX5_at_7 : decode cX5_at 7 = .ok (.iadd, 1) := by decide +kernel
theorem dX5_at_8 : decode cX5_at 8 = .ok (.bipush 98, 2) := by decide +kernel
theorem dX5_at_10 : decode cX5_at 10 = .ok (.iload_n 1, 1) := by decide +kernel
theorem dX5_at_11 : decode cX5_at 11 = .ok (.imul, 1) := by decide +kernel
theorem dX5_at_12 : decode cX5_at 12 = .ok (.iadd, 1) := by decide +kernel
theorem dX5_at_13 : decode cX5_at 13 = .ok (.iload_n 2, 1) := by decide +kernel
theorem dX5_at_14 : decode cX5_at 14 = .ok (.iadd, 1) := by decide +kernel
theorem dX5_at_15 : decode cX5_at 15 = .ok (.ireturn, 1) := by decide +kernel
theorem dX5_atMeasure_0 : decode cX5_atMeasure 0 = .ok (.iload_n 0, 1) := by decide +kernel
theorem dX5_atMeasure_1 : decode cX5_atMeasure 1 = .ok (.iload_n 1, 1) := by decide +kernel
theorem dX5_atMeasure_2 : decode cX5_atMeasure 2 = .ok (.bipush 35, 2) := by decide +kernel
theorem dX5_atMeasure_4 : decode cX5_atMeasure 4 = .ok (.bipush 21, 2) := by decide +kernel
theorem dX5_atMeasure_6 : decode cX5_atMeasure 6 = .ok (.iload_n 2, 1) := by decide +kernel
theorem dX5_atMeasure_7 : decode cX5_atMeasure 7 = .ok (.imul, 1) := by decide +kernel
theorem dX5_atMeasure_8 : decode cX5_atMeasure 8 = .ok (.iadd, 1) := by decide +kernel
theorem dX5_atMeasure_9 : decode cX5_atMeasure 9 = .ok (.iload_n 3, 1) := by decide +kernel
theorem dX5_atMeasure_10 : decode cX5_atMeasure 10 = .ok (.iadd, 1) := by decide +kernel
theorem dX5_atMeasure_11 : decode cX5_atMeasure 11 = .ok (.invokestatic 40, 3) := by decide +kernel
theorem dX5_atMeasure_14 : decode cX5_atMeasure 14 = .ok (.ireturn, 1) := by decide +kernel
theorem dX5_isHouse_0 : decode cX5_isHouse 0 = .ok (.aload_n 0, 1) := by decide +kernel
theorem dX5_isHouse_1 : decode cX5_isHouse 1 = .ok (.getfield 7, 3) := by decide +kernel
theorem dX5_isHouse_4 : decode cX5_isHouse 4 = .ok (.bipush 7, 2) := by decide +kernel
theorem dX5_isHouse_6 : decode cX5_isHouse 6 = .ok (.iaload, 1) := by decide +kernel
theorem dX5_isHouse_7 : decode cX5_isHouse 7 = .ok (.ifCond .le 7, 3) := by decide +kernel
theorem dX5_isHouse_10 : decode cX5_isHouse 10 = .ok (.iconst 1, 1) := by decide +kernel
theorem dX5_isHouse_11 : decode cX5_isHouse 11 = .ok (.goto 4, 3) := by decide +kernel
theorem dX5_isHouse_14 : decode cX5_isHouse 14 = .ok (.iconst 0, 1) := by decide +kernel
theorem dX5_isHouse_15 : decode cX5_isHouse 15 = .ok (.ireturn, 1) := by decide +kernel
theorem dX5_isService_0 : decode cX5_isService 0 = .ok (.iload_n 1, 1) := by decide +kernel
theorem dX5_isService_1 : decode cX5_isService 1 = .ok (.i2l, 1) := by decide +kernel
theorem dX5_isService_2 : decode cX5_isService 2 = .ok (.lconst 0, 1) := by decide +kernel
theorem dX5_isService_3 : decode cX5_isService 3 = .ok (.aload_n 0, 1) := by decide +kernel
theorem dX5_isService_4 : decode cX5_isService 4 = .ok (.getfield 7, 3) := by decide +kernel
theorem dX5_isService_7 : decode cX5_isService 7 = .ok (.bipush 7, 2) := by decide +kernel
theorem dX5_isService_9 : decode cX5_isService 9 = .ok (.iaload, 1) := by decide +kernel
theorem dX5_isService_10 : decode cX5_isService 10 = .ok (.iconst 1, 1) := by decide +kernel
theorem dX5_isService_11 : decode cX5_isService 11 = .ok (.isub, 1) := by decide +kernel
theorem dX5_isService_12 : decode cX5_isService 12 = .ok (.i2l, 1) := by decide +kernel
theorem dX5_isService_13 : decode cX5_isService 13 = .ok (.invokestatic 44, 3) := by decide +kernel
theorem dX5_isService_16 : decode cX5_isService 16 = .ok (.ireturn, 1) := by decide +kernel
theorem dX5_isMeasure_0 : decode cX5_isMeasure 0 = .ok (.aload_n 0, 1) := by decide +kernel
theorem dX5_isMeasure_1 : decode cX5_isMeasure 1 = .ok (.iload_n 1, 1) := by decide +kernel
theorem dX5_isMeasure_2 : decode cX5_isMeasure 2 = .ok (.invokevirtual 48, 3) := by decide +kernel
theorem dX5_isMeasure_5 : decode cX5_isMeasure 5 = .ok (.ifCond .eq 31, 3) := by decide +kernel
theorem dX5_isMeasure_8 : decode cX5_isMeasure 8 = .ok (.iload_n 2, 1) := by decide +kernel
theorem dX5_isMeasure_9 : decode cX5_isMeasure 9 = .ok (.i2l, 1) := by decide +kernel
theorem dX5_isMeasure_10 : decode cX5_isMeasure 10 = .ok (.lconst 0, 1) := by decide +kernel
theorem dX5_isMeasure_11 : decode cX5_isMeasure 11 = .ok (.aload_n 0, 1) := by decide +kernel
theorem dX5_isMeasure_12 : decode cX5_isMeasure 12 = .ok (.getfield 7, 3) := by decide +kernel
theorem dX5_isMeasure_15 : decode cX5_isMeasure 15 = .ok (.iconst 0, 1) := by decide +kernel
theorem dX5_isMeasure_16 : decode cX5_isMeasure 16 = .ok (.iload_n 1, 1) := by decide +kernel
theorem dX5_isMeasure_17 : decode cX5_isMeasure 17 = .ok (.bipush 9, 2) := by decide +kernel
theorem dX5_isMeasure_19 : decode cX5_isMeasure 19 = .ok (.invokestatic 40, 3) := by decide +kernel
theorem dX5_isMeasure_22 : decode cX5_isMeasure 22 = .ok (.iaload, 1) := by decide +kernel
theorem dX5_isMeasure_23 : decode cX5_isMeasure 23 = .ok (.iconst 1, 1) := by decide +kernel
theorem dX5_isMeasure_24 : decode cX5_isMeasure 24 = .ok (.isub, 1) := by decide +kernel
theorem dX5_isMeasure_25 : decode cX5_isMeasure 25 = .ok (.i2l, 1) := by decide +kernel
theorem dX5_isMeasure_26 : decode cX5_isMeasure 26 = .ok (.invokestatic 44, 3) := by decide +kernel
theorem dX5_isMeasure_29 : decode cX5_isMeasure 29 = .ok (.ifCond .eq 7, 3) := by decide +kernel
theorem dX5_isMeasure_32 : decode cX5_isMeasure 32 = .ok (.iconst 1, 1) := by decide +kernel
theorem dX5_isMeasure_33 : decode cX5_isMeasure 33 = .ok (.goto 4, 3) := by decide +kernel
theorem dX5_isMeasure_36 : decode cX5_isMeasure 36 = .ok (.iconst 0, 1) := by decide +kernel
theorem dX5_isMeasure_37 : decode cX5_isMeasure 37 = .ok (.ireturn, 1) := by decide +kernel
theorem dX5_up_0 : decode cX5_up 0 = .ok (.iload_n 0, 1) := by decide +kernel
theorem dX5_up_1 : decode cX5_up 1 = .ok (.iload_n 1, 1) := by decide +kernel
theorem dX5_up_2 : decode cX5_up 2 = .ok (.iadd, 1) := by decide +kernel
theorem dX5_up_3 : decode cX5_up 3 = .ok (.iconst 1, 1) := by decide +kernel
theorem dX5_up_4 : decode cX5_up 4 = .ok (.isub, 1) := by decide +kernel
theorem dX5_up_5 : decode cX5_up 5 = .ok (.iload_n 1, 1) := by decide +kernel
theorem dX5_up_6 : decode cX5_up 6 = .ok (.idiv, 1) := by decide +kernel
theorem dX5_up_7 : decode cX5_up 7 = .ok (.ireturn, 1) := by decide +kernel
theorem dX5_countOf_0 : decode cX5_countOf 0 = .ok (.aload_n 0, 1) := by decide +kernel
theorem dX5_countOf_1 : decode cX5_countOf 1 = .ok (.getfield 7, 3) := by decide +kernel
theorem dX5_countOf_4 : decode cX5_countOf 4 = .ok (.iload_n 1, 1) := by decide +kernel
theorem dX5_countOf_5 : decode cX5_countOf 5 = .ok (.iload_n 2, 1) := by decide +kernel
theorem dX5_countOf_6 : decode cX5_countOf 6 = .ok (.bipush 10, 2) := by decide +kernel
theorem dX5_countOf_8 : decode cX5_countOf 8 = .ok (.invokestatic 40, 3) := by decide +kernel
theorem dX5_countOf_11 : decode cX5_countOf 11 = .ok (.iaload, 1) := by decide +kernel
theorem dX5_countOf_12 : decode cX5_countOf 12 = .ok (.istore_n 3, 1) := by decide +kernel
theorem dX5_countOf_13 : decode cX5_countOf 13 = .ok (.iconst 0, 1) := by decide +kernel
theorem dX5_countOf_14 : decode cX5_countOf 14 = .ok (.istore 4, 2) := by decide +kernel
theorem dX5_countOf_16 : decode cX5_countOf 16 = .ok (.iload 4, 2) := by decide +kernel
theorem dX5_countOf_18 : decode cX5_countOf 18 = .ok (.bipush 7, 2) := by decide +kernel
theorem dX5_countOf_20 : decode cX5_countOf 20 = .ok (.if_icmp .ge 27, 3) := by decide +kernel
theorem dX5_countOf_23 : decode cX5_countOf 23 = .ok (.iload_n 3, 1) := by decide +kernel
theorem dX5_countOf_24 : decode cX5_countOf 24 = .ok (.aload_n 0, 1) := by decide +kernel
theorem dX5_countOf_25 : decode cX5_countOf 25 = .ok (.getfield 7, 3) := by decide +kernel
theorem dX5_countOf_28 : decode cX5_countOf 28 = .ok (.iload_n 1, 1) := by decide +kernel
theorem dX5_countOf_29 : decode cX5_countOf 29 = .ok (.iload_n 2, 1) := by decide +kernel
theorem dX5_countOf_30 : decode cX5_countOf 30 = .ok (.bipush 11, 2) := by decide +kernel
theorem dX5_countOf_32 : decode cX5_countOf 32 = .ok (.iload 4, 2) := by decide +kernel
theorem dX5_countOf_34 : decode cX5_countOf 34 = .ok (.iadd, 1) := by decide +kernel
theorem dX5_countOf_35 : decode cX5_countOf 35 = .ok (.invokestatic 40, 3) := by decide +kernel
theorem dX5_countOf_38 : decode cX5_countOf 38 = .ok (.iaload, 1) := by decide +kernel
theorem dX5_countOf_39 : decode cX5_countOf 39 = .ok (.iadd, 1) := by decide +kernel
theorem dX5_countOf_40 : decode cX5_countOf 40 = .ok (.istore_n 3, 1) := by decide +kernel
theorem dX5_countOf_41 : decode cX5_countOf 41 = .ok (.iinc 4 1, 3) := by decide +kernel
theorem dX5_countOf_44 : decode cX5_countOf 44 = .ok (.goto (-28), 3) := by decide +kernel
theorem dX5_countOf_47 : decode cX5_countOf 47 = .ok (.iload_n 3, 1) := by decide +kernel
theorem dX5_countOf_48 : decode cX5_countOf 48 = .ok (.ireturn, 1) := by decide +kernel
theorem dX5_allCounts_0 : decode cX5_allCounts 0 = .ok (.iconst 0, 1) := by decide +kernel
theorem dX5_allCounts_1 : decode cX5_allCounts 1 = .ok (.istore_n 2, 1) := by decide +kernel
theorem dX5_allCounts_2 : decode cX5_allCounts 2 = .ok (.iconst 0, 1) := by decide +kernel
theorem dX5_allCounts_3 : decode cX5_allCounts 3 = .ok (.istore_n 3, 1) := by decide +kernel
theorem dX5_allCounts_4 : decode cX5_allCounts 4 = .ok (.iload_n 3, 1) := by decide +kernel
theorem dX5_allCounts_5 : decode cX5_allCounts 5 = .ok (.aload_n 0, 1) := by decide +kernel
theorem dX5_allCounts_6 : decode cX5_allCounts 6 = .ok (.iload_n 1, 1) := by decide +kernel
theorem dX5_allCounts_7 : decode cX5_allCounts 7 = .ok (.bipush 7, 2) := by decide +kernel
theorem dX5_allCounts_9 : decode cX5_allCounts 9 = .ok (.invokevirtual 52, 3) := by decide +kernel
theorem dX5_allCounts_12 : decode cX5_allCounts 12 = .ok (.if_icmp .ge 18, 3) := by decide +kernel
theorem dX5_allCounts_15 : decode cX5_allCounts 15 = .ok (.iload_n 2, 1) := by decide +kernel
theorem dX5_allCounts_16 : decode cX5_allCounts 16 = .ok (.aload_n 0, 1) := by decide +kernel
theorem dX5_allCounts_17 : decode cX5_allCounts 17 = .ok (.iload_n 1, 1) := by decide +kernel
theorem dX5_allCounts_18 : decode cX5_allCounts 18 = .ok (.iload_n 3, 1) := by decide +kernel
theorem dX5_allCounts_19 : decode cX5_allCounts 19 = .ok (.invokevirtual 56, 3) := by decide +kernel
theorem dX5_allCounts_22 : decode cX5_allCounts 22 = .ok (.iadd, 1) := by decide +kernel
theorem dX5_allCounts_23 : decode cX5_allCounts 23 = .ok (.istore_n 2, 1) := by decide +kernel
theorem dX5_allCounts_24 : decode cX5_allCounts 24 = .ok (.iinc 3 1, 3) := by decide +kernel
theorem dX5_allCounts_27 : decode cX5_allCounts 27 = .ok (.goto (-23), 3) := by decide +kernel
theorem dX5_allCounts_30 : decode cX5_allCounts 30 = .ok (.iload_n 2, 1) := by decide +kernel
theorem dX5_allCounts_31 : decode cX5_allCounts 31 = .ok (.ireturn, 1) := by decide +kernel
theorem dX5_pastOf_0 : decode cX5_pastOf 0 = .ok (.aload_n 0, 1) := by decide +kernel
theorem dX5_pastOf_1 : decode cX5_pastOf 1 = .ok (.iload_n 1, 1) := by decide +kernel
theorem dX5_pastOf_2 : decode cX5_pastOf 2 = .ok (.bipush 6, 2) := by decide +kernel
theorem dX5_pastOf_4 : decode cX5_pastOf 4 = .ok (.invokevirtual 52, 3) := by decide +kernel
theorem dX5_pastOf_7 : decode cX5_pastOf 7 = .ok (.bipush 18, 2) := by decide +kernel
theorem dX5_pastOf_9 : decode cX5_pastOf 9 = .ok (.if_icmp .ge 13, 3) := by decide +kernel
theorem dX5_pastOf_12 : decode cX5_pastOf 12 = .ok (.aload_n 0, 1) := by decide +kernel
theorem dX5_pastOf_13 : decode cX5_pastOf 13 = .ok (.iload_n 1, 1) := by decide +kernel
theorem dX5_pastOf_14 : decode cX5_pastOf 14 = .ok (.bipush 6, 2) := by decide +kernel
theorem dX5_pastOf_16 : decode cX5_pastOf 16 = .ok (.invokevirtual 52, 3) := by decide +kernel
theorem dX5_pastOf_19 : decode cX5_pastOf 19 = .ok (.goto 5, 3) := by decide +kernel
theorem dX5_pastOf_22 : decode cX5_pastOf 22 = .ok (.bipush 18, 2) := by decide +kernel
theorem dX5_pastOf_24 : decode cX5_pastOf 24 = .ok (.ireturn, 1) := by decide +kernel
theorem dX5_forecastOf_0 : decode cX5_forecastOf 0 = .ok (.iconst 0, 1) := by decide +kernel
theorem dX5_forecastOf_1 : decode cX5_forecastOf 1 = .ok (.istore 5, 2) := by decide +kernel
theorem dX5_forecastOf_3 : decode cX5_forecastOf 3 = .ok (.iconst 0, 1) := by decide +kernel
theorem dX5_forecastOf_4 : decode cX5_forecastOf 4 = .ok (.istore 6, 2) := by decide +kernel
theorem dX5_forecastOf_6 : decode cX5_forecastOf 6 = .ok (.iconst 1, 1) := by decide +kernel
theorem dX5_forecastOf_7 : decode cX5_forecastOf 7 = .ok (.istore 7, 2) := by decide +kernel
theorem dX5_forecastOf_9 : decode cX5_forecastOf 9 = .ok (.iload 7, 2) := by decide +kernel
theorem dX5_forecastOf_11 : decode cX5_forecastOf 11 = .ok (.iconst 3, 1) := by decide +kernel
theorem dX5_forecastOf_12 : decode cX5_forecastOf 12 = .ok (.if_icmp .gt 84, 3) := by decide +kernel
theorem dX5_forecastOf_15 : decode cX5_forecastOf 15 = .ok (.iload 7, 2) := by decide +kernel
theorem dX5_forecastOf_17 : decode cX5_forecastOf 17 = .ok (.aload_n 0, 1) := by decide +kernel
theorem dX5_forecastOf_18 : decode cX5_forecastOf 18 = .ok (.iload_n 1, 1) := by decide +kernel
theorem dX5_forecastOf_19 : decode cX5_forecastOf 19 = .ok (.iconst 4, 1) := by decide +kernel
theorem dX5_forecastOf_20 : decode cX5_forecastOf 20 = .ok (.invokevirtual 52, 3) := by decide +kernel
theorem dX5_forecastOf_23 : decode cX5_forecastOf 23 = .ok (.imul, 1) := by decide +kernel
theorem dX5_forecastOf_24 : decode cX5_forecastOf 24 = .ok (.iload 4, 2) := by decide +kernel
theorem dX5_forecastOf_26 : decode cX5_forecastOf 26 = .ok (.isub, 1) := by decide +kernel
theorem dX5_forecastOf_27 : decode cX5_forecastOf 27 = .ok (.iconst 1, 1) := by decide +kernel
theorem dX5_forecastOf_28 : decode cX5_forecastOf 28 = .ok (.isub, 1) := by decide +kernel
theorem dX5_forecastOf_29 : decode cX5_forecastOf 29 = .ok (.istore 8, 2) := by decide +kernel
theorem dX5_forecastOf_31 : decode cX5_forecastOf 31 = .ok (.iload 8, 2) := by decide +kernel
theorem dX5_forecastOf_33 : decode cX5_forecastOf 33 = .ok (.i2l, 1) := by decide +kernel
theorem dX5_forecastOf_34 : decode cX5_forecastOf 34 = .ok (.lconst 0, 1) := by decide +kernel
theorem dX5_forecastOf_35 : decode cX5_forecastOf 35 = .ok (.aload_n 0, 1) := by decide +kernel
theorem dX5_forecastOf_36 : decode cX5_forecastOf 36 = .ok (.iload_n 1, 1) := by decide +kernel
theorem dX5_forecastOf_37 : decode cX5_forecastOf 37 = .ok (.invokevirtual 59, 3) := by decide +kernel
theorem dX5_forecastOf_40 : decode cX5_forecastOf 40 = .ok (.iconst 1, 1) := by decide +kernel
theorem dX5_forecastOf_41 : decode cX5_forecastOf 41 = .ok (.isub, 1) := by decide +kernel
theorem dX5_forecastOf_42 : decode cX5_forecastOf 42 = .ok (.i2l, 1) := by decide +kernel
theorem dX5_forecastOf_43 : decode cX5_forecastOf 43 = .ok (.invokestatic 44, 3) := by decide +kernel
theorem dX5_forecastOf_46 : decode cX5_forecastOf 46 = .ok (.ifCond .eq 44, 3) := by decide +kernel
theorem dX5_forecastOf_49 : decode cX5_forecastOf 49 = .ok (.aload_n 0, 1) := by decide +kernel
theorem dX5_forecastOf_50 : decode cX5_forecastOf 50 = .ok (.getfield 7, 3) := by decide +kernel
theorem dX5_forecastOf_53 : decode cX5_forecastOf 53 = .ok (.iload_n 1, 1) := by decide +kernel
theorem dX5_forecastOf_54 : decode cX5_forecastOf 54 = .ok (.iload_n 2, 1) := by decide +kernel
theorem dX5_forecastOf_55 : decode cX5_forecastOf 55 = .ok (.iload_n 3, 1) := by decide +kernel
theorem dX5_forecastOf_56 : decode cX5_forecastOf 56 = .ok (.iconst 3, 1) := by decide +kernel
theorem dX5_forecastOf_57 : decode cX5_forecastOf 57 = .ok (.iload 8, 2) := by decide +kernel
theorem dX5_forecastOf_59 : decode cX5_forecastOf 59 = .ok (.iadd, 1) := by decide +kernel
theorem dX5_forecastOf_60 : decode cX5_forecastOf 60 = .ok (.invokestatic 63, 3) := by decide +kernel
theorem dX5_forecastOf_63 : decode cX5_forecastOf 63 = .ok (.iaload, 1) := by decide +kernel
theorem dX5_forecastOf_64 : decode cX5_forecastOf 64 = .ok (.ifCond .lt 26, 3) := by decide +kernel
theorem dX5_forecastOf_67 : decode cX5_forecastOf 67 = .ok (.iload 5, 2) := by decide +kernel
theorem dX5_forecastOf_69 : decode cX5_forecastOf 69 = .ok (.aload_n 0, 1) := by decide +kernel
theorem dX5_forecastOf_70 : decode cX5_forecastOf 70 = .ok (.getfield 7, 3) := by decide +kernel
theorem dX5_forecastOf_73 : decode cX5_forecastOf 73 = .ok (.iload_n 1, 1) := by decide +kernel
theorem dX5_forecastOf_74 : decode cX5_forecastOf 74 = .ok (.iload_n 2, 1) := by decide +kernel
theorem dX5_forecastOf_75 : decode cX5_forecastOf 75 = .ok (.iload_n 3, 1) := by decide +kernel
theorem dX5_forecastOf_76 : decode cX5_forecastOf 76 = .ok (.iconst 3, 1) := by decide +kernel
theorem dX5_forecastOf_77 : decode cX5_forecastOf 77 = .ok (.iload 8, 2) := by decide +kernel
theorem dX5_forecastOf_79 : decode cX5_forecastOf 79 = .ok (.iadd, 1) := by decide +kernel
theorem dX5_forecastOf_80 : decode cX5_forecastOf 80 = .ok (.invokestatic 63, 3) := by decide +kernel
theorem dX5_forecastOf_83 : decode cX5_forecastOf 83 = .ok (.iaload, 1) := by decide +kernel
theorem dX5_forecastOf_84 : decode cX5_forecastOf 84 = .ok (.iadd, 1) := by decide +kernel
theorem dX5_forecastOf_85 : decode cX5_forecastOf 85 = .ok (.istore 5, 2) := by decide +kernel
theorem dX5_forecastOf_87 : decode cX5_forecastOf 87 = .ok (.iinc 6 1, 3) := by decide +kernel
theorem dX5_forecastOf_90 : decode cX5_forecastOf 90 = .ok (.iinc 7 1, 3) := by decide +kernel
theorem dX5_forecastOf_93 : decode cX5_forecastOf 93 = .ok (.goto (-84), 3) := by decide +kernel
theorem dX5_forecastOf_96 : decode cX5_forecastOf 96 = .ok (.iload 6, 2) := by decide +kernel
theorem dX5_forecastOf_98 : decode cX5_forecastOf 98 = .ok (.ifCond .ne 7, 3) := by decide +kernel
theorem dX5_forecastOf_101 : decode cX5_forecastOf 101 = .ok (.iconst 0, 1) := by decide +kernel
theorem dX5_forecastOf_102 : decode cX5_forecastOf 102 = .ok (.goto 10, 3) := by decide +kernel
theorem dX5_forecastOf_105 : decode cX5_forecastOf 105 = .ok (.iload 5, 2) := by decide +kernel
theorem dX5_forecastOf_107 : decode cX5_forecastOf 107 = .ok (.iload 6, 2) := by decide +kernel
theorem dX5_forecastOf_109 : decode cX5_forecastOf 109 = .ok (.invokestatic 67, 3) := by decide +kernel
theorem dX5_forecastOf_112 : decode cX5_forecastOf 112 = .ok (.ireturn, 1) := by decide +kernel
theorem dX5_wantOf_0 : decode cX5_wantOf 0 = .ok (.aload_n 0, 1) := by decide +kernel
theorem dX5_wantOf_1 : decode cX5_wantOf 1 = .ok (.iload_n 1, 1) := by decide +kernel
theorem dX5_wantOf_2 : decode cX5_wantOf 2 = .ok (.iload_n 2, 1) := by decide +kernel
theorem dX5_wantOf_3 : decode cX5_wantOf 3 = .ok (.invokevirtual 56, 3) := by decide +kernel
theorem dX5_wantOf_6 : decode cX5_wantOf 6 = .ok (.istore 5, 2) := by decide +kernel
theorem dX5_wantOf_8 : decode cX5_wantOf 8 = .ok (.aload_n 0, 1) := by decide +kernel
theorem dX5_wantOf_9 : decode cX5_wantOf 9 = .ok (.getfield 7, 3) := by decide +kernel
theorem dX5_wantOf_12 : decode cX5_wantOf 12 = .ok (.iload_n 1, 1) := by decide +kernel
theorem dX5_wantOf_13 : decode cX5_wantOf 13 = .ok (.iload_n 2, 1) := by decide +kernel
theorem dX5_wantOf_14 : decode cX5_wantOf 14 = .ok (.iload_n 3, 1) := by decide +kernel
theorem dX5_wantOf_15 : decode cX5_wantOf 15 = .ok (.iconst 1, 1) := by decide +kernel
theorem dX5_wantOf_16 : decode cX5_wantOf 16 = .ok (.invokestatic 63, 3) := by decide +kernel
theorem dX5_wantOf_19 : decode cX5_wantOf 19 = .ok (.iaload, 1) := by decide +kernel
theorem dX5_wantOf_20 : decode cX5_wantOf 20 = .ok (.istore 6, 2) := by decide +kernel
theorem dX5_wantOf_22 : decode cX5_wantOf 22 = .ok (.aload_n 0, 1) := by decide +kernel
theorem dX5_wantOf_23 : decode cX5_wantOf 23 = .ok (.getfield 7, 3) := by decide +kernel
theorem dX5_wantOf_26 : decode cX5_wantOf 26 = .ok (.iload_n 1, 1) := by decide +kernel
theorem dX5_wantOf_27 : decode cX5_wantOf 27 = .ok (.iload_n 2, 1) := by decide +kernel
theorem dX5_wantOf_28 : decode cX5_wantOf 28 = .ok (.bipush 10, 2) := by decide +kernel
theorem dX5_wantOf_30 : decode cX5_wantOf 30 = .ok (.invokestatic 40, 3) := by decide +kernel
theorem dX5_wantOf_33 : decode cX5_wantOf 33 = .ok (.iaload, 1) := by decide +kernel
theorem dX5_wantOf_34 : decode cX5_wantOf 34 = .ok (.istore 7, 2) := by decide +kernel
theorem dX5_wantOf_36 : decode cX5_wantOf 36 = .ok (.iload 4, 2) := by decide +kernel
theorem dX5_wantOf_38 : decode cX5_wantOf 38 = .ok (.ifCond .ge 6, 3) := by decide +kernel
theorem dX5_wantOf_41 : decode cX5_wantOf 41 = .ok (.iload 5, 2) := by decide +kernel
theorem dX5_wantOf_43 : decode cX5_wantOf 43 = .ok (.ireturn, 1) := by decide +kernel
theorem dX5_wantOf_44 : decode cX5_wantOf 44 = .ok (.aload_n 0, 1) := by decide +kernel
theorem dX5_wantOf_45 : decode cX5_wantOf 45 = .ok (.getfield 7, 3) := by decide +kernel
theorem dX5_wantOf_48 : decode cX5_wantOf 48 = .ok (.iload_n 1, 1) := by decide +kernel
theorem dX5_wantOf_49 : decode cX5_wantOf 49 = .ok (.iload_n 2, 1) := by decide +kernel
theorem dX5_wantOf_50 : decode cX5_wantOf 50 = .ok (.iload_n 3, 1) := by decide +kernel
theorem dX5_wantOf_51 : decode cX5_wantOf 51 = .ok (.iconst 0, 1) := by decide +kernel
theorem dX5_wantOf_52 : decode cX5_wantOf 52 = .ok (.invokestatic 63, 3) := by decide +kernel
theorem dX5_wantOf_55 : decode cX5_wantOf 55 = .ok (.iaload, 1) := by decide +kernel
theorem dX5_wantOf_56 : decode cX5_wantOf 56 = .ok (.tableswitch 128 1 3 #[28, 36, 71], 28) := by decide +kernel
theorem dX5_wantOf_84 : decode cX5_wantOf 84 = .ok (.iload 4, 2) := by decide +kernel
theorem dX5_wantOf_86 : decode cX5_wantOf 86 = .ok (.iload 6, 2) := by decide +kernel
theorem dX5_wantOf_88 : decode cX5_wantOf 88 = .ok (.invokestatic 67, 3) := by decide +kernel
theorem dX5_wantOf_91 : decode cX5_wantOf 91 = .ok (.ireturn, 1) := by decide +kernel
theorem dX5_wantOf_92 : decode cX5_wantOf 92 = .ok (.aload_n 0, 1) := by decide +kernel
theorem dX5_wantOf_93 : decode cX5_wantOf 93 = .ok (.iload_n 1, 1) := by decide +kernel
theorem dX5_wantOf_94 : decode cX5_wantOf 94 = .ok (.iload_n 2, 1) := by decide +kernel
theorem dX5_wantOf_95 : decode cX5_wantOf 95 = .ok (.iload_n 3, 1) := by decide +kernel
theorem dX5_wantOf_96 : decode cX5_wantOf 96 = .ok (.aload_n 0, 1) := by decide +kernel
theorem dX5_wantOf_97 : decode cX5_wantOf 97 = .ok (.iload_n 1, 1) := by decide +kernel
theorem dX5_wantOf_98 : decode cX5_wantOf 98 = .ok (.iconst 1, 1) := by decide +kernel
theorem dX5_wantOf_99 : decode cX5_wantOf 99 = .ok (.invokevirtual 52, 3) := by decide +kernel
theorem dX5_wantOf_102 : decode cX5_wantOf 102 = .ok (.invokevirtual 70, 3) := by decide +kernel
theorem dX5_wantOf_105 : decode cX5_wantOf 105 = .ok (.istore 8, 2) := by decide +kernel
theorem dX5_wantOf_107 : decode cX5_wantOf 107 = .ok (.iload 8, 2) := by decide +kernel
theorem dX5_wantOf_109 : decode cX5_wantOf 109 = .ok (.iload 4, 2) := by decide +kernel
theorem dX5_wantOf_111 : decode cX5_wantOf 111 = .ok (.if_icmp .le 8, 3) := by decide +kernel
theorem dX5_wantOf_114 : decode cX5_wantOf 114 = .ok (.iload 8, 2) := by decide +kernel
theorem dX5_wantOf_116 : decode cX5_wantOf 116 = .ok (.goto 5, 3) := by decide +kernel
theorem dX5_wantOf_119 : decode cX5_wantOf 119 = .ok (.iload 4, 2) := by decide +kernel
theorem dX5_wantOf_121 : decode cX5_wantOf 121 = .ok (.iload 6, 2) := by decide +kernel
theorem dX5_wantOf_123 : decode cX5_wantOf 123 = .ok (.invokestatic 67, 3) := by decide +kernel
theorem dX5_wantOf_126 : decode cX5_wantOf 126 = .ok (.ireturn, 1) := by decide +kernel
theorem dX5_wantOf_127 : decode cX5_wantOf 127 = .ok (.iload 4, 2) := by decide +kernel
theorem dX5_wantOf_129 : decode cX5_wantOf 129 = .ok (.iload 6, 2) := by decide +kernel
theorem dX5_wantOf_131 : decode cX5_wantOf 131 = .ok (.if_icmp .le 11, 3) := by decide +kernel
theorem dX5_wantOf_134 : decode cX5_wantOf 134 = .ok (.iload 4, 2) := by decide +kernel
theorem dX5_wantOf_136 : decode cX5_wantOf 136 = .ok (.iload 6, 2) := by decide +kernel
theorem dX5_wantOf_138 : decode cX5_wantOf 138 = .ok (.isub, 1) := by decide +kernel
theorem dX5_wantOf_139 : decode cX5_wantOf 139 = .ok (.goto 8, 3) := by decide +kernel
theorem dX5_wantOf_142 : decode cX5_wantOf 142 = .ok (.iload 6, 2) := by decide +kernel
theorem dX5_wantOf_144 : decode cX5_wantOf 144 = .ok (.iload 4, 2) := by decide +kernel
theorem dX5_wantOf_146 : decode cX5_wantOf 146 = .ok (.isub, 1) := by decide +kernel
theorem dX5_wantOf_147 : decode cX5_wantOf 147 = .ok (.istore 9, 2) := by decide +kernel
theorem dX5_wantOf_149 : decode cX5_wantOf 149 = .ok (.bipush 10, 2) := by decide +kernel
theorem dX5_wantOf_151 : decode cX5_wantOf 151 = .ok (.iload 9, 2) := by decide +kernel
theorem dX5_wantOf_153 : decode cX5_wantOf 153 = .ok (.imul, 1) := by decide +kernel
theorem dX5_wantOf_154 : decode cX5_wantOf 154 = .ok (.iload 6, 2) := by decide +kernel
theorem dX5_wantOf_156 : decode cX5_wantOf 156 = .ok (.if_icmp .gt 8, 3) := by decide +kernel
theorem dX5_wantOf_159 : decode cX5_wantOf 159 = .ok (.iload 5, 2) := by decide +kernel
theorem dX5_wantOf_161 : decode cX5_wantOf 161 = .ok (.goto 22, 3) := by decide +kernel
theorem dX5_wantOf_164 : decode cX5_wantOf 164 = .ok (.iload 7, 2) := by decide +kernel
theorem dX5_wantOf_166 : decode cX5_wantOf 166 = .ok (.ifCond .ne 7, 3) := by decide +kernel
theorem dX5_wantOf_169 : decode cX5_wantOf 169 = .ok (.iconst 1, 1) := by decide +kernel
theorem dX5_wantOf_170 : decode cX5_wantOf 170 = .ok (.goto 5, 3) := by decide +kernel
theorem dX5_wantOf_173 : decode cX5_wantOf 173 = .ok (.iload 7, 2) := by decide +kernel
theorem dX5_wantOf_175 : decode cX5_wantOf 175 = .ok (.iload 4, 2) := by decide +kernel
theorem dX5_wantOf_177 : decode cX5_wantOf 177 = .ok (.imul, 1) := by decide +kernel
theorem dX5_wantOf_178 : decode cX5_wantOf 178 = .ok (.iload 6, 2) := by decide +kernel
theorem dX5_wantOf_180 : decode cX5_wantOf 180 = .ok (.invokestatic 67, 3) := by decide +kernel
theorem dX5_wantOf_183 : decode cX5_wantOf 183 = .ok (.ireturn, 1) := by decide +kernel
theorem dX5_wantOf_184 : decode cX5_wantOf 184 = .ok (.iload 4, 2) := by decide +kernel
theorem dX5_wantOf_186 : decode cX5_wantOf 186 = .ok (.ifCond .le 16, 3) := by decide +kernel
theorem dX5_wantOf_189 : decode cX5_wantOf 189 = .ok (.iload 5, 2) := by decide +kernel
theorem dX5_wantOf_191 : decode cX5_wantOf 191 = .ok (.iload 4, 2) := by decide +kernel
theorem dX5_wantOf_193 : decode cX5_wantOf 193 = .ok (.iconst 1, 1) := by decide +kernel
theorem dX5_wantOf_194 : decode cX5_wantOf 194 = .ok (.isub, 1) := by decide +kernel
theorem dX5_wantOf_195 : decode cX5_wantOf 195 = .ok (.iload 6, 2) := by decide +kernel
theorem dX5_wantOf_197 : decode cX5_wantOf 197 = .ok (.idiv, 1) := by decide +kernel
theorem dX5_wantOf_198 : decode cX5_wantOf 198 = .ok (.iadd, 1) := by decide +kernel
theorem dX5_wantOf_199 : decode cX5_wantOf 199 = .ok (.goto 16, 3) := by decide +kernel
theorem dX5_wantOf_202 : decode cX5_wantOf 202 = .ok (.iload 5, 2) := by decide +kernel
theorem dX5_wantOf_204 : decode cX5_wantOf 204 = .ok (.ifCond .le 10, 3) := by decide +kernel
theorem dX5_wantOf_207 : decode cX5_wantOf 207 = .ok (.iload 5, 2) := by decide +kernel
theorem dX5_wantOf_209 : decode cX5_wantOf 209 = .ok (.iconst 1, 1) := by decide +kernel
theorem dX5_wantOf_210 : decode cX5_wantOf 210 = .ok (.isub, 1) := by decide +kernel
theorem dX5_wantOf_211 : decode cX5_wantOf 211 = .ok (.goto 4, 3) := by decide +kernel
theorem dX5_wantOf_214 : decode cX5_wantOf 214 = .ok (.iconst 0, 1) := by decide +kernel
theorem dX5_wantOf_215 : decode cX5_wantOf 215 = .ok (.ireturn, 1) := by decide +kernel
theorem dX5_wanted_0 : decode cX5_wanted 0 = .ok (.aload_n 0, 1) := by decide +kernel
theorem dX5_wanted_1 : decode cX5_wanted 1 = .ok (.getfield 7, 3) := by decide +kernel
theorem dX5_wanted_4 : decode cX5_wanted 4 = .ok (.iload_n 1, 1) := by decide +kernel
theorem dX5_wanted_5 : decode cX5_wanted 5 = .ok (.iload_n 2, 1) := by decide +kernel
theorem dX5_wanted_6 : decode cX5_wanted 6 = .ok (.bipush 9, 2) := by decide +kernel
theorem dX5_wanted_8 : decode cX5_wanted 8 = .ok (.invokestatic 40, 3) := by decide +kernel
theorem dX5_wanted_11 : decode cX5_wanted 11 = .ok (.iaload, 1) := by decide +kernel
theorem dX5_wanted_12 : decode cX5_wanted 12 = .ok (.ifCond .ne 17, 3) := by decide +kernel
theorem dX5_wanted_15 : decode cX5_wanted 15 = .ok (.aload_n 0, 1) := by decide +kernel
theorem dX5_wanted_16 : decode cX5_wanted 16 = .ok (.getfield 7, 3) := by decide +kernel
theorem dX5_wanted_19 : decode cX5_wanted 19 = .ok (.iload_n 1, 1) := by decide +kernel
theorem dX5_wanted_20 : decode cX5_wanted 20 = .ok (.iload_n 2, 1) := by decide +kernel
theorem dX5_wanted_21 : decode cX5_wanted 21 = .ok (.iconst 0, 1) := by decide +kernel
theorem dX5_wanted_22 : decode cX5_wanted 22 = .ok (.invokestatic 40, 3) := by decide +kernel
theorem dX5_wanted_25 : decode cX5_wanted 25 = .ok (.iaload, 1) := by decide +kernel
theorem dX5_wanted_26 : decode cX5_wanted 26 = .ok (.goto 4, 3) := by decide +kernel
theorem dX5_wanted_29 : decode cX5_wanted 29 = .ok (.iconst 0, 1) := by decide +kernel
theorem dX5_wanted_30 : decode cX5_wanted 30 = .ok (.istore_n 3, 1) := by decide +kernel
theorem dX5_wanted_31 : decode cX5_wanted 31 = .ok (.iconst 0, 1) := by decide +kernel
theorem dX5_wanted_32 : decode cX5_wanted 32 = .ok (.istore 4, 2) := by decide +kernel
theorem dX5_wanted_34 : decode cX5_wanted 34 = .ok (.iload 4, 2) := by decide +kernel
theorem dX5_wanted_36 : decode cX5_wanted 36 = .ok (.aload_n 0, 1) := by decide +kernel
theorem dX5_wanted_37 : decode cX5_wanted 37 = .ok (.getfield 7, 3) := by decide +kernel
theorem dX5_wanted_40 : decode cX5_wanted 40 = .ok (.iload_n 1, 1) := by decide +kernel
theorem dX5_wanted_41 : decode cX5_wanted 41 = .ok (.iload_n 2, 1) := by decide +kernel
theorem dX5_wanted_42 : decode cX5_wanted 42 = .ok (.bipush 9, 2) := by decide +kernel
theorem dX5_wanted_44 : decode cX5_wanted 44 = .ok (.invokestatic 40, 3) := by decide +kernel
theorem dX5_wanted_47 : decode cX5_wanted 47 = .ok (.iaload, 1) := by decide +kernel
theorem dX5_wanted_48 : decode cX5_wanted 48 = .ok (.if_icmp .ge 45, 3) := by decide +kernel
theorem dX5_wanted_51 : decode cX5_wanted 51 = .ok (.aload_n 0, 1) := by decide +kernel
theorem dX5_wanted_52 : decode cX5_wanted 52 = .ok (.iload_n 1, 1) := by decide +kernel
theorem dX5_wanted_53 : decode cX5_wanted 53 = .ok (.iload_n 2, 1) := by decide +kernel
theorem dX5_wanted_54 : decode cX5_wanted 54 = .ok (.iload 4, 2) := by decide +kernel
theorem dX5_wanted_56 : decode cX5_wanted 56 = .ok (.aload_n 0, 1) := by decide +kernel
theorem dX5_wanted_57 : decode cX5_wanted 57 = .ok (.getfield 7, 3) := by decide +kernel
theorem dX5_wanted_60 : decode cX5_wanted 60 = .ok (.iload_n 1, 1) := by decide +kernel
theorem dX5_wanted_61 : decode cX5_wanted 61 = .ok (.iload_n 2, 1) := by decide +kernel
theorem dX5_wanted_62 : decode cX5_wanted 62 = .ok (.iload 4, 2) := by decide +kernel
theorem dX5_wanted_64 : decode cX5_wanted 64 = .ok (.iconst 2, 1) := by decide +kernel
theorem dX5_wanted_65 : decode cX5_wanted 65 = .ok (.invokestatic 63, 3) := by decide +kernel
theorem dX5_wanted_68 : decode cX5_wanted 68 = .ok (.iaload, 1) := by decide +kernel
theorem dX5_wanted_69 : decode cX5_wanted 69 = .ok (.invokevirtual 73, 3) := by decide +kernel
theorem dX5_wanted_72 : decode cX5_wanted 72 = .ok (.istore 5, 2) := by decide +kernel
theorem dX5_wanted_74 : decode cX5_wanted 74 = .ok (.iload 5, 2) := by decide +kernel
theorem dX5_wanted_76 : decode cX5_wanted 76 = .ok (.iload_n 3, 1) := by decide +kernel
theorem dX5_wanted_77 : decode cX5_wanted 77 = .ok (.if_icmp .le 8, 3) := by decide +kernel
theorem dX5_wanted_80 : decode cX5_wanted 80 = .ok (.iload 5, 2) := by decide +kernel
theorem dX5_wanted_82 : decode cX5_wanted 82 = .ok (.goto 4, 3) := by decide +kernel
theorem dX5_wanted_85 : decode cX5_wanted 85 = .ok (.iload_n 3, 1) := by decide +kernel
theorem dX5_wanted_86 : decode cX5_wanted 86 = .ok (.istore_n 3, 1) := by decide +kernel
theorem dX5_wanted_87 : decode cX5_wanted 87 = .ok (.iinc 4 1, 3) := by decide +kernel
theorem dX5_wanted_90 : decode cX5_wanted 90 = .ok (.goto (-56), 3) := by decide +kernel
theorem dX5_wanted_93 : decode cX5_wanted 93 = .ok (.iload_n 3, 1) := by decide +kernel
theorem dX5_wanted_94 : decode cX5_wanted 94 = .ok (.ireturn, 1) := by decide +kernel
theorem dX5_starts_0 : decode cX5_starts 0 = .ok (.iconst 0, 1) := by decide +kernel
theorem dX5_starts_1 : decode cX5_starts 1 = .ok (.istore_n 2, 1) := by decide +kernel
theorem dX5_starts_2 : decode cX5_starts 2 = .ok (.iload_n 2, 1) := by decide +kernel
theorem dX5_starts_3 : decode cX5_starts 3 = .ok (.aload_n 0, 1) := by decide +kernel
theorem dX5_starts_4 : decode cX5_starts 4 = .ok (.iload_n 1, 1) := by decide +kernel
theorem dX5_starts_5 : decode cX5_starts 5 = .ok (.bipush 7, 2) := by decide +kernel
theorem dX5_starts_7 : decode cX5_starts 7 = .ok (.invokevirtual 52, 3) := by decide +kernel
theorem dX5_starts_10 : decode cX5_starts 10 = .ok (.if_icmp .ge 49, 3) := by decide +kernel
theorem dX5_starts_13 : decode cX5_starts 13 = .ok (.aload_n 0, 1) := by decide +kernel
theorem dX5_starts_14 : decode cX5_starts 14 = .ok (.getfield 7, 3) := by decide +kernel
theorem dX5_starts_17 : decode cX5_starts 17 = .ok (.iload_n 1, 1) := by decide +kernel
theorem dX5_starts_18 : decode cX5_starts 18 = .ok (.iload_n 2, 1) := by decide +kernel
theorem dX5_starts_19 : decode cX5_starts 19 = .ok (.bipush 10, 2) := by decide +kernel
theorem dX5_starts_21 : decode cX5_starts 21 = .ok (.invokestatic 40, 3) := by decide +kernel
theorem dX5_starts_24 : decode cX5_starts 24 = .ok (.dup2, 1) := by decide +kernel
theorem dX5_starts_25 : decode cX5_starts 25 = .ok (.iaload, 1) := by decide +kernel
theorem dX5_starts_26 : decode cX5_starts 26 = .ok (.aload_n 0, 1) := by decide +kernel
theorem dX5_starts_27 : decode cX5_starts 27 = .ok (.getfield 7, 3) := by decide +kernel
theorem dX5_starts_30 : decode cX5_starts 30 = .ok (.iload_n 1, 1) := by decide +kernel
theorem dX5_starts_31 : decode cX5_starts 31 = .ok (.iload_n 2, 1) := by decide +kernel
theorem dX5_starts_32 : decode cX5_starts 32 = .ok (.bipush 11, 2) := by decide +kernel
theorem dX5_starts_34 : decode cX5_starts 34 = .ok (.invokestatic 40, 3) := by decide +kernel
theorem dX5_starts_37 : decode cX5_starts 37 = .ok (.iaload, 1) := by decide +kernel
theorem dX5_starts_38 : decode cX5_starts 38 = .ok (.iadd, 1) := by decide +kernel
theorem dX5_starts_39 : decode cX5_starts 39 = .ok (.iastore, 1) := by decide +kernel
theorem dX5_starts_40 : decode cX5_starts 40 = .ok (.aload_n 0, 1) := by decide +kernel
theorem dX5_starts_41 : decode cX5_starts 41 = .ok (.getfield 7, 3) := by decide +kernel
theorem dX5_starts_44 : decode cX5_starts 44 = .ok (.iload_n 1, 1) := by decide +kernel
theorem dX5_starts_45 : decode cX5_starts 45 = .ok (.iload_n 2, 1) := by decide +kernel
theorem dX5_starts_46 : decode cX5_starts 46 = .ok (.bipush 11, 2) := by decide +kernel
theorem dX5_starts_48 : decode cX5_starts 48 = .ok (.invokestatic 40, 3) := by decide +kernel
theorem dX5_starts_51 : decode cX5_starts 51 = .ok (.iconst 0, 1) := by decide +kernel
theorem dX5_starts_52 : decode cX5_starts 52 = .ok (.iastore, 1) := by decide +kernel
theorem dX5_starts_53 : decode cX5_starts 53 = .ok (.iinc 2 1, 3) := by decide +kernel
theorem dX5_starts_56 : decode cX5_starts 56 = .ok (.goto (-54), 3) := by decide +kernel
theorem dX5_starts_59 : decode cX5_starts 59 = .ok (.return_, 1) := by decide +kernel
theorem dX5_ofWants_0 : decode cX5_ofWants 0 = .ok (.aload_n 0, 1) := by decide +kernel
theorem dX5_ofWants_1 : decode cX5_ofWants 1 = .ok (.getfield 13, 3) := by decide +kernel
theorem dX5_ofWants_4 : decode cX5_ofWants 4 = .ok (.iload_n 2, 1) := by decide +kernel
theorem dX5_ofWants_5 : decode cX5_ofWants 5 = .ok (.iaload, 1) := by decide +kernel
theorem dX5_ofWants_6 : decode cX5_ofWants 6 = .ok (.istore 5, 2) := by decide +kernel
theorem dX5_ofWants_8 : decode cX5_ofWants 8 = .ok (.iconst 0, 1) := by decide +kernel
theorem dX5_ofWants_9 : decode cX5_ofWants 9 = .ok (.istore 6, 2) := by decide +kernel
theorem dX5_ofWants_11 : decode cX5_ofWants 11 = .ok (.iload 6, 2) := by decide +kernel
theorem dX5_ofWants_13 : decode cX5_ofWants 13 = .ok (.iload_n 3, 1) := by decide +kernel
theorem dX5_ofWants_14 : decode cX5_ofWants 14 = .ok (.iconst 1, 1) := by decide +kernel
theorem dX5_ofWants_15 : decode cX5_ofWants 15 = .ok (.isub, 1) := by decide +kernel
theorem dX5_ofWants_16 : decode cX5_ofWants 16 = .ok (.if_icmp .ge 81, 3) := by decide +kernel
theorem dX5_ofWants_19 : decode cX5_ofWants 19 = .ok (.iload 6, 2) := by decide +kernel
theorem dX5_ofWants_21 : decode cX5_ofWants 21 = .ok (.aload_n 0, 1) := by decide +kernel
theorem dX5_ofWants_22 : decode cX5_ofWants 22 = .ok (.getfield 7, 3) := by decide +kernel
theorem dX5_ofWants_25 : decode cX5_ofWants 25 = .ok (.iload_n 1, 1) := by decide +kernel
theorem dX5_ofWants_26 : decode cX5_ofWants 26 = .ok (.iload_n 2, 1) := by decide +kernel
theorem dX5_ofWants_27 : decode cX5_ofWants 27 = .ok (.bipush 24, 2) := by decide +kernel
theorem dX5_ofWants_29 : decode cX5_ofWants 29 = .ok (.invokestatic 40, 3) := by decide +kernel
theorem dX5_ofWants_32 : decode cX5_ofWants 32 = .ok (.iaload, 1) := by decide +kernel
theorem dX5_ofWants_33 : decode cX5_ofWants 33 = .ok (.if_icmp .ge 64, 3) := by decide +kernel
theorem dX5_ofWants_36 : decode cX5_ofWants 36 = .ok (.aload_n 0, 1) := by decide +kernel
theorem dX5_ofWants_37 : decode cX5_ofWants 37 = .ok (.getfield 7, 3) := by decide +kernel
theorem dX5_ofWants_40 : decode cX5_ofWants 40 = .ok (.iload_n 1, 1) := by decide +kernel
theorem dX5_ofWants_41 : decode cX5_ofWants 41 = .ok (.iload_n 2, 1) := by decide +kernel
theorem dX5_ofWants_42 : decode cX5_ofWants 42 = .ok (.bipush 18, 2) := by decide +kernel
theorem dX5_ofWants_44 : decode cX5_ofWants 44 = .ok (.iload 6, 2) := by decide +kernel
theorem dX5_ofWants_46 : decode cX5_ofWants 46 = .ok (.iadd, 1) := by decide +kernel
theorem dX5_ofWants_47 : decode cX5_ofWants 47 = .ok (.invokestatic 40, 3) := by decide +kernel
theorem dX5_ofWants_50 : decode cX5_ofWants 50 = .ok (.iaload, 1) := by decide +kernel
theorem dX5_ofWants_51 : decode cX5_ofWants 51 = .ok (.istore 7, 2) := by decide +kernel
theorem dX5_ofWants_53 : decode cX5_ofWants 53 = .ok (.iload 4, 2) := by decide +kernel
theorem dX5_ofWants_55 : decode cX5_ofWants 55 = .ok (.ifCond .eq 20, 3) := by decide +kernel
theorem dX5_ofWants_58 : decode cX5_ofWants 58 = .ok (.iload 7, 2) := by decide +kernel
theorem dX5_ofWants_60 : decode cX5_ofWants 60 = .ok (.iload 5, 2) := by decide +kernel
theorem dX5_ofWants_62 : decode cX5_ofWants 62 = .ok (.if_icmp .ge 8, 3) := by decide +kernel
theorem dX5_ofWants_65 : decode cX5_ofWants 65 = .ok (.iload 7, 2) := by decide +kernel
theorem dX5_ofWants_67 : decode cX5_ofWants 67 = .ok (.goto 22, 3) := by decide +kernel
theorem dX5_ofWants_70 : decode cX5_ofWants 70 = .ok (.iload 5, 2) := by decide +kernel
theorem dX5_ofWants_72 : decode cX5_ofWants 72 = .ok (.goto 17, 3) := by decide +kernel
theorem dX5_ofWants_75 : decode cX5_ofWants 75 = .ok (.iload 7, 2) := by decide +kernel
theorem dX5_ofWants_77 : decode cX5_ofWants 77 = .ok (.iload 5, 2) := by decide +kernel
theorem dX5_ofWants_79 : decode cX5_ofWants 79 = .ok (.if_icmp .le 8, 3) := by decide +kernel
theorem dX5_ofWants_82 : decode cX5_ofWants 82 = .ok (.iload 7, 2) := by decide +kernel
theorem dX5_ofWants_84 : decode cX5_ofWants 84 = .ok (.goto 5, 3) := by decide +kernel
theorem dX5_ofWants_87 : decode cX5_ofWants 87 = .ok (.iload 5, 2) := by decide +kernel
theorem dX5_ofWants_89 : decode cX5_ofWants 89 = .ok (.istore 5, 2) := by decide +kernel
theorem dX5_ofWants_91 : decode cX5_ofWants 91 = .ok (.iinc 6 1, 3) := by decide +kernel
theorem dX5_ofWants_94 : decode cX5_ofWants 94 = .ok (.goto (-83), 3) := by decide +kernel
theorem dX5_ofWants_97 : decode cX5_ofWants 97 = .ok (.iload 5, 2) := by decide +kernel
theorem dX5_ofWants_99 : decode cX5_ofWants 99 = .ok (.ireturn, 1) := by decide +kernel
theorem dX5_sumOf_0 : decode cX5_sumOf 0 = .ok (.iconst 0, 1) := by decide +kernel
theorem dX5_sumOf_1 : decode cX5_sumOf 1 = .ok (.istore 5, 2) := by decide +kernel
theorem dX5_sumOf_3 : decode cX5_sumOf 3 = .ok (.iconst 0, 1) := by decide +kernel
theorem dX5_sumOf_4 : decode cX5_sumOf 4 = .ok (.istore 6, 2) := by decide +kernel
theorem dX5_sumOf_6 : decode cX5_sumOf 6 = .ok (.iload 6, 2) := by decide +kernel
theorem dX5_sumOf_8 : decode cX5_sumOf 8 = .ok (.iload 4, 2) := by decide +kernel
theorem dX5_sumOf_10 : decode cX5_sumOf 10 = .ok (.if_icmp .ge 28, 3) := by decide +kernel
theorem dX5_sumOf_13 : decode cX5_sumOf 13 = .ok (.iload 5, 2) := by decide +kernel
theorem dX5_sumOf_15 : decode cX5_sumOf 15 = .ok (.aload_n 0, 1) := by decide +kernel
theorem dX5_sumOf_16 : decode cX5_sumOf 16 = .ok (.getfield 7, 3) := by decide +kernel
theorem dX5_sumOf_19 : decode cX5_sumOf 19 = .ok (.iload_n 1, 1) := by decide +kernel
theorem dX5_sumOf_20 : decode cX5_sumOf 20 = .ok (.iload_n 2, 1) := by decide +kernel
theorem dX5_sumOf_21 : decode cX5_sumOf 21 = .ok (.iload_n 3, 1) := by decide +kernel
theorem dX5_sumOf_22 : decode cX5_sumOf 22 = .ok (.iload 6, 2) := by decide +kernel
theorem dX5_sumOf_24 : decode cX5_sumOf 24 = .ok (.iadd, 1) := by decide +kernel
theorem dX5_sumOf_25 : decode cX5_sumOf 25 = .ok (.invokestatic 40, 3) := by decide +kernel
theorem dX5_sumOf_28 : decode cX5_sumOf 28 = .ok (.iaload, 1) := by decide +kernel
theorem dX5_sumOf_29 : decode cX5_sumOf 29 = .ok (.iadd, 1) := by decide +kernel
theorem dX5_sumOf_30 : decode cX5_sumOf 30 = .ok (.istore 5, 2) := by decide +kernel
theorem dX5_sumOf_32 : decode cX5_sumOf 32 = .ok (.iinc 6 1, 3) := by decide +kernel
theorem dX5_sumOf_35 : decode cX5_sumOf 35 = .ok (.goto (-29), 3) := by decide +kernel
theorem dX5_sumOf_38 : decode cX5_sumOf 38 = .ok (.iload 5, 2) := by decide +kernel
theorem dX5_sumOf_40 : decode cX5_sumOf 40 = .ok (.ireturn, 1) := by decide +kernel
theorem dX5_weighs_0 : decode cX5_weighs 0 = .ok (.aload_n 0, 1) := by decide +kernel
theorem dX5_weighs_1 : decode cX5_weighs 1 = .ok (.iload_n 1, 1) := by decide +kernel
theorem dX5_weighs_2 : decode cX5_weighs 2 = .ok (.iload_n 2, 1) := by decide +kernel
theorem dX5_weighs_3 : decode cX5_weighs 3 = .ok (.invokevirtual 56, 3) := by decide +kernel
theorem dX5_weighs_6 : decode cX5_weighs 6 = .ok (.istore_n 3, 1) := by decide +kernel
theorem dX5_weighs_7 : decode cX5_weighs 7 = .ok (.aload_n 0, 1) := by decide +kernel
theorem dX5_weighs_8 : decode cX5_weighs 8 = .ok (.getfield 13, 3) := by decide +kernel
theorem dX5_weighs_11 : decode cX5_weighs 11 = .ok (.iload_n 2, 1) := by decide +kernel
theorem dX5_weighs_12 : decode cX5_weighs 12 = .ok (.aload_n 0, 1) := by decide +kernel
theorem dX5_weighs_13 : decode cX5_weighs 13 = .ok (.iload_n 1, 1) := by decide +kernel
theorem dX5_weighs_14 : decode cX5_weighs 14 = .ok (.iload_n 2, 1) := by decide +kernel
theorem dX5_weighs_15 : decode cX5_weighs 15 = .ok (.invokevirtual 76, 3) := by decide +kernel
theorem dX5_weighs_18 : decode cX5_weighs 18 = .ok (.iastore, 1) := by decide +kernel
theorem dX5_weighs_19 : decode cX5_weighs 19 = .ok (.aload_n 0, 1) := by decide +kernel
theorem dX5_weighs_20 : decode cX5_weighs 20 = .ok (.iload_n 1, 1) := by decide +kernel
theorem dX5_weighs_21 : decode cX5_weighs 21 = .ok (.iload_n 2, 1) := by decide +kernel
theorem dX5_weighs_22 : decode cX5_weighs 22 = .ok (.aload_n 0, 1) := by decide +kernel
theorem dX5_weighs_23 : decode cX5_weighs 23 = .ok (.getfield 7, 3) := by decide +kernel
theorem dX5_weighs_26 : decode cX5_weighs 26 = .ok (.iload_n 1, 1) := by decide +kernel
theorem dX5_weighs_27 : decode cX5_weighs 27 = .ok (.iload_n 2, 1) := by decide +kernel
theorem dX5_weighs_28 : decode cX5_weighs 28 = .ok (.iconst 3, 1) := by decide +kernel
theorem dX5_weighs_29 : decode cX5_weighs 29 = .ok (.invokestatic 40, 3) := by decide +kernel
theorem dX5_weighs_32 : decode cX5_weighs 32 = .ok (.iaload, 1) := by decide +kernel
theorem dX5_weighs_33 : decode cX5_weighs 33 = .ok (.iconst 1, 1) := by decide +kernel
theorem dX5_weighs_34 : decode cX5_weighs 34 = .ok (.invokevirtual 79, 3) := by decide +kernel
theorem dX5_weighs_37 : decode cX5_weighs 37 = .ok (.istore 4, 2) := by decide +kernel
theorem dX5_weighs_39 : decode cX5_weighs 39 = .ok (.aload_n 0, 1) := by decide +kernel
theorem dX5_weighs_40 : decode cX5_weighs 40 = .ok (.iload_n 1, 1) := by decide +kernel
theorem dX5_weighs_41 : decode cX5_weighs 41 = .ok (.iload_n 2, 1) := by decide +kernel
theorem dX5_weighs_42 : decode cX5_weighs 42 = .ok (.aload_n 0, 1) := by decide +kernel
theorem dX5_weighs_43 : decode cX5_weighs 43 = .ok (.getfield 7, 3) := by decide +kernel
theorem dX5_weighs_46 : decode cX5_weighs 46 = .ok (.iload_n 1, 1) := by decide +kernel
theorem dX5_weighs_47 : decode cX5_weighs 47 = .ok (.iload_n 2, 1) := by decide +kernel
theorem dX5_weighs_48 : decode cX5_weighs 48 = .ok (.iconst 4, 1) := by decide +kernel
theorem dX5_weighs_49 : decode cX5_weighs 49 = .ok (.invokestatic 40, 3) := by decide +kernel
theorem dX5_weighs_52 : decode cX5_weighs 52 = .ok (.iaload, 1) := by decide +kernel
theorem dX5_weighs_53 : decode cX5_weighs 53 = .ok (.iconst 0, 1) := by decide +kernel
theorem dX5_weighs_54 : decode cX5_weighs 54 = .ok (.invokevirtual 79, 3) := by decide +kernel
theorem dX5_weighs_57 : decode cX5_weighs 57 = .ok (.istore 5, 2) := by decide +kernel
theorem dX5_weighs_59 : decode cX5_weighs 59 = .ok (.aload_n 0, 1) := by decide +kernel
theorem dX5_weighs_60 : decode cX5_weighs 60 = .ok (.getfield 16, 3) := by decide +kernel
theorem dX5_weighs_63 : decode cX5_weighs 63 = .ok (.iload_n 2, 1) := by decide +kernel
theorem dX5_weighs_64 : decode cX5_weighs 64 = .ok (.iload_n 3, 1) := by decide +kernel
theorem dX5_weighs_65 : decode cX5_weighs 65 = .ok (.iload 4, 2) := by decide +kernel
theorem dX5_weighs_67 : decode cX5_weighs 67 = .ok (.if_icmp .ge 8, 3) := by decide +kernel
theorem dX5_weighs_70 : decode cX5_weighs 70 = .ok (.iload 4, 2) := by decide +kernel
theorem dX5_weighs_72 : decode cX5_weighs 72 = .ok (.goto 15, 3) := by decide +kernel
theorem dX5_weighs_75 : decode cX5_weighs 75 = .ok (.iload_n 3, 1) := by decide +kernel
theorem dX5_weighs_76 : decode cX5_weighs 76 = .ok (.iload 5, 2) := by decide +kernel
theorem dX5_weighs_78 : decode cX5_weighs 78 = .ok (.if_icmp .le 8, 3) := by decide +kernel
theorem dX5_weighs_81 : decode cX5_weighs 81 = .ok (.iload 5, 2) := by decide +kernel
theorem dX5_weighs_83 : decode cX5_weighs 83 = .ok (.goto 4, 3) := by decide +kernel
theorem dX5_weighs_86 : decode cX5_weighs 86 = .ok (.iload_n 3, 1) := by decide +kernel
theorem dX5_weighs_87 : decode cX5_weighs 87 = .ok (.iastore, 1) := by decide +kernel
theorem dX5_weighs_88 : decode cX5_weighs 88 = .ok (.aload_n 0, 1) := by decide +kernel
theorem dX5_weighs_89 : decode cX5_weighs 89 = .ok (.getfield 7, 3) := by decide +kernel
theorem dX5_weighs_92 : decode cX5_weighs 92 = .ok (.iload_n 1, 1) := by decide +kernel
theorem dX5_weighs_93 : decode cX5_weighs 93 = .ok (.iload_n 2, 1) := by decide +kernel
theorem dX5_weighs_94 : decode cX5_weighs 94 = .ok (.bipush 8, 2) := by decide +kernel
theorem dX5_weighs_96 : decode cX5_weighs 96 = .ok (.invokestatic 40, 3) := by decide +kernel
theorem dX5_weighs_99 : decode cX5_weighs 99 = .ok (.iaload, 1) := by decide +kernel
theorem dX5_weighs_100 : decode cX5_weighs 100 = .ok (.iconst 1, 1) := by decide +kernel
theorem dX5_weighs_101 : decode cX5_weighs 101 = .ok (.isub, 1) := by decide +kernel
theorem dX5_weighs_102 : decode cX5_weighs 102 = .ok (.istore 6, 2) := by decide +kernel
theorem dX5_weighs_104 : decode cX5_weighs 104 = .ok (.iload_n 3, 1) := by decide +kernel
theorem dX5_weighs_105 : decode cX5_weighs 105 = .ok (.aload_n 0, 1) := by decide +kernel
theorem dX5_weighs_106 : decode cX5_weighs 106 = .ok (.iload_n 1, 1) := by decide +kernel
theorem dX5_weighs_107 : decode cX5_weighs 107 = .ok (.iload_n 2, 1) := by decide +kernel
theorem dX5_weighs_108 : decode cX5_weighs 108 = .ok (.bipush 28, 2) := by decide +kernel
theorem dX5_weighs_110 : decode cX5_weighs 110 = .ok (.iload 6, 2) := by decide +kernel
theorem dX5_weighs_112 : decode cX5_weighs 112 = .ok (.invokevirtual 83, 3) := by decide +kernel
theorem dX5_weighs_115 : decode cX5_weighs 115 = .ok (.iadd, 1) := by decide +kernel
theorem dX5_weighs_116 : decode cX5_weighs 116 = .ok (.aload_n 0, 1) := by decide +kernel
theorem dX5_weighs_117 : decode cX5_weighs 117 = .ok (.getfield 7, 3) := by decide +kernel
theorem dX5_weighs_120 : decode cX5_weighs 120 = .ok (.iload_n 1, 1) := by decide +kernel
theorem dX5_weighs_121 : decode cX5_weighs 121 = .ok (.iload_n 2, 1) := by decide +kernel
theorem dX5_weighs_122 : decode cX5_weighs 122 = .ok (.bipush 7, 2) := by decide +kernel
theorem dX5_weighs_124 : decode cX5_weighs 124 = .ok (.invokestatic 40, 3) := by decide +kernel
theorem dX5_weighs_127 : decode cX5_weighs 127 = .ok (.iaload, 1) := by decide +kernel
theorem dX5_weighs_128 : decode cX5_weighs 128 = .ok (.isub, 1) := by decide +kernel
theorem dX5_weighs_129 : decode cX5_weighs 129 = .ok (.istore 7, 2) := by decide +kernel
theorem dX5_weighs_131 : decode cX5_weighs 131 = .ok (.iload_n 3, 1) := by decide +kernel
theorem dX5_weighs_132 : decode cX5_weighs 132 = .ok (.aload_n 0, 1) := by decide +kernel
theorem dX5_weighs_133 : decode cX5_weighs 133 = .ok (.iload_n 1, 1) := by decide +kernel
theorem dX5_weighs_134 : decode cX5_weighs 134 = .ok (.iload_n 2, 1) := by decide +kernel
theorem dX5_weighs_135 : decode cX5_weighs 135 = .ok (.bipush 25, 2) := by decide +kernel
theorem dX5_weighs_137 : decode cX5_weighs 137 = .ok (.iload 6, 2) := by decide +kernel
theorem dX5_weighs_139 : decode cX5_weighs 139 = .ok (.invokevirtual 83, 3) := by decide +kernel
theorem dX5_weighs_142 : decode cX5_weighs 142 = .ok (.isub, 1) := by decide +kernel
theorem dX5_weighs_143 : decode cX5_weighs 143 = .ok (.istore 8, 2) := by decide +kernel
theorem dX5_weighs_145 : decode cX5_weighs 145 = .ok (.iload 8, 2) := by decide +kernel
theorem dX5_weighs_147 : decode cX5_weighs 147 = .ok (.ifCond .ge 7, 3) := by decide +kernel
theorem dX5_weighs_150 : decode cX5_weighs 150 = .ok (.iconst 0, 1) := by decide +kernel
theorem dX5_weighs_151 : decode cX5_weighs 151 = .ok (.goto 5, 3) := by decide +kernel
theorem dX5_weighs_154 : decode cX5_weighs 154 = .ok (.iload 8, 2) := by decide +kernel
theorem dX5_weighs_156 : decode cX5_weighs 156 = .ok (.istore 8, 2) := by decide +kernel
theorem dX5_weighs_158 : decode cX5_weighs 158 = .ok (.iload 8, 2) := by decide +kernel
theorem dX5_weighs_160 : decode cX5_weighs 160 = .ok (.aload_n 0, 1) := by decide +kernel
theorem dX5_weighs_161 : decode cX5_weighs 161 = .ok (.getfield 7, 3) := by decide +kernel
theorem dX5_weighs_164 : decode cX5_weighs 164 = .ok (.iload_n 1, 1) := by decide +kernel
theorem dX5_weighs_165 : decode cX5_weighs 165 = .ok (.iload_n 2, 1) := by decide +kernel
theorem dX5_weighs_166 : decode cX5_weighs 166 = .ok (.bipush 6, 2) := by decide +kernel
theorem dX5_weighs_168 : decode cX5_weighs 168 = .ok (.invokestatic 40, 3) := by decide +kernel
theorem dX5_weighs_171 : decode cX5_weighs 171 = .ok (.iaload, 1) := by decide +kernel
theorem dX5_weighs_172 : decode cX5_weighs 172 = .ok (.imul, 1) := by decide +kernel
theorem dX5_weighs_173 : decode cX5_weighs 173 = .ok (.bipush 100, 2) := by decide +kernel
theorem dX5_weighs_175 : decode cX5_weighs 175 = .ok (.invokestatic 67, 3) := by decide +kernel
theorem dX5_weighs_178 : decode cX5_weighs 178 = .ok (.istore 9, 2) := by decide +kernel
theorem dX5_weighs_180 : decode cX5_weighs 180 = .ok (.iload 8, 2) := by decide +kernel
theorem dX5_weighs_182 : decode cX5_weighs 182 = .ok (.iload 9, 2) := by decide +kernel
theorem dX5_weighs_184 : decode cX5_weighs 184 = .ok (.aload_n 0, 1) := by decide +kernel
theorem dX5_weighs_185 : decode cX5_weighs 185 = .ok (.getfield 7, 3) := by decide +kernel
theorem dX5_weighs_188 : decode cX5_weighs 188 = .ok (.iload_n 1, 1) := by decide +kernel
theorem dX5_weighs_189 : decode cX5_weighs 189 = .ok (.iload_n 2, 1) := by decide +kernel
theorem dX5_weighs_190 : decode cX5_weighs 190 = .ok (.iconst 5, 1) := by decide +kernel
theorem dX5_weighs_191 : decode cX5_weighs 191 = .ok (.invokestatic 40, 3) := by decide +kernel
theorem dX5_weighs_194 : decode cX5_weighs 194 = .ok (.iaload, 1) := by decide +kernel
theorem dX5_weighs_195 : decode cX5_weighs 195 = .ok (.if_icmp .le 8, 3) := by decide +kernel
theorem dX5_weighs_198 : decode cX5_weighs 198 = .ok (.iload 9, 2) := by decide +kernel
theorem dX5_weighs_200 : decode cX5_weighs 200 = .ok (.goto 14, 3) := by decide +kernel
theorem dX5_weighs_203 : decode cX5_weighs 203 = .ok (.aload_n 0, 1) := by decide +kernel
theorem dX5_weighs_204 : decode cX5_weighs 204 = .ok (.getfield 7, 3) := by decide +kernel
theorem dX5_weighs_207 : decode cX5_weighs 207 = .ok (.iload_n 1, 1) := by decide +kernel
theorem dX5_weighs_208 : decode cX5_weighs 208 = .ok (.iload_n 2, 1) := by decide +kernel
theorem dX5_weighs_209 : decode cX5_weighs 209 = .ok (.iconst 5, 1) := by decide +kernel
theorem dX5_weighs_210 : decode cX5_weighs 210 = .ok (.invokestatic 40, 3) := by decide +kernel
theorem dX5_weighs_213 : decode cX5_weighs 213 = .ok (.iaload, 1) := by decide +kernel
theorem dX5_weighs_214 : decode cX5_weighs 214 = .ok (.iadd, 1) := by decide +kernel
theorem dX5_weighs_215 : decode cX5_weighs 215 = .ok (.istore 10, 2) := by decide +kernel
theorem dX5_weighs_217 : decode cX5_weighs 217 = .ok (.aload_n 0, 1) := by decide +kernel
theorem dX5_weighs_218 : decode cX5_weighs 218 = .ok (.getfield 19, 3) := by decide +kernel
theorem dX5_weighs_221 : decode cX5_weighs 221 = .ok (.iload_n 2, 1) := by decide +kernel
theorem dX5_weighs_222 : decode cX5_weighs 222 = .ok (.iload_n 3, 1) := by decide +kernel
theorem dX5_weighs_223 : decode cX5_weighs 223 = .ok (.iastore, 1) := by decide +kernel
theorem dX5_weighs_224 : decode cX5_weighs 224 = .ok (.aload_n 0, 1) := by decide +kernel
theorem dX5_weighs_225 : decode cX5_weighs 225 = .ok (.getfield 16, 3) := by decide +kernel
theorem dX5_weighs_228 : decode cX5_weighs 228 = .ok (.iload_n 2, 1) := by decide +kernel
theorem dX5_weighs_229 : decode cX5_weighs 229 = .ok (.iaload, 1) := by decide +kernel
theorem dX5_weighs_230 : decode cX5_weighs 230 = .ok (.iload_n 3, 1) := by decide +kernel
theorem dX5_weighs_231 : decode cX5_weighs 231 = .ok (.if_icmp .ge 48, 3) := by decide +kernel
theorem dX5_weighs_234 : decode cX5_weighs 234 = .ok (.aload_n 0, 1) := by decide +kernel
theorem dX5_weighs_235 : decode cX5_weighs 235 = .ok (.getfield 16, 3) := by decide +kernel
theorem dX5_weighs_238 : decode cX5_weighs 238 = .ok (.iload_n 2, 1) := by decide +kernel
theorem dX5_weighs_239 : decode cX5_weighs 239 = .ok (.iaload, 1) := by decide +kernel
theorem dX5_weighs_240 : decode cX5_weighs 240 = .ok (.iload 7, 2) := by decide +kernel
theorem dX5_weighs_242 : decode cX5_weighs 242 = .ok (.if_icmp .le 12, 3) := by decide +kernel
theorem dX5_weighs_245 : decode cX5_weighs 245 = .ok (.aload_n 0, 1) := by decide +kernel
theorem dX5_weighs_246 : decode cX5_weighs 246 = .ok (.getfield 16, 3) := by decide +kernel
theorem dX5_weighs_249 : decode cX5_weighs 249 = .ok (.iload_n 2, 1) := by decide +kernel
theorem dX5_weighs_250 : decode cX5_weighs 250 = .ok (.iaload, 1) := by decide +kernel
theorem dX5_weighs_251 : decode cX5_weighs 251 = .ok (.goto 5, 3) := by decide +kernel
theorem dX5_weighs_254 : decode cX5_weighs 254 = .ok (.iload 7, 2) := by decide +kernel
theorem dX5_weighs_256 : decode cX5_weighs 256 = .ok (.istore 11, 2) := by decide +kernel
theorem dX5_weighs_258 : decode cX5_weighs 258 = .ok (.aload_n 0, 1) := by decide +kernel
theorem dX5_weighs_259 : decode cX5_weighs 259 = .ok (.getfield 19, 3) := by decide +kernel
theorem dX5_weighs_262 : decode cX5_weighs 262 = .ok (.iload_n 2, 1) := by decide +kernel
theorem dX5_weighs_263 : decode cX5_weighs 263 = .ok (.iload 11, 2) := by decide +kernel
theorem dX5_weighs_265 : decode cX5_weighs 265 = .ok (.iload_n 3, 1) := by decide +kernel
theorem dX5_weighs_266 : decode cX5_weighs 266 = .ok (.if_icmp .le 7, 3) := by decide +kernel
theorem dX5_weighs_269 : decode cX5_weighs 269 = .ok (.iload_n 3, 1) := by decide +kernel
theorem dX5_weighs_270 : decode cX5_weighs 270 = .ok (.goto 5, 3) := by decide +kernel
theorem dX5_weighs_273 : decode cX5_weighs 273 = .ok (.iload 11, 2) := by decide +kernel
theorem dX5_weighs_275 : decode cX5_weighs 275 = .ok (.iastore, 1) := by decide +kernel
theorem dX5_weighs_276 : decode cX5_weighs 276 = .ok (.goto 55, 3) := by decide +kernel
theorem dX5_weighs_279 : decode cX5_weighs 279 = .ok (.aload_n 0, 1) := by decide +kernel
theorem dX5_weighs_280 : decode cX5_weighs 280 = .ok (.getfield 16, 3) := by decide +kernel
theorem dX5_weighs_283 : decode cX5_weighs 283 = .ok (.iload_n 2, 1) := by decide +kernel
theorem dX5_weighs_284 : decode cX5_weighs 284 = .ok (.iaload, 1) := by decide +kernel
theorem dX5_weighs_285 : decode cX5_weighs 285 = .ok (.iload_n 3, 1) := by decide +kernel
theorem dX5_weighs_286 : decode cX5_weighs 286 = .ok (.if_icmp .le 45, 3) := by decide +kernel
theorem dX5_weighs_289 : decode cX5_weighs 289 = .ok (.aload_n 0, 1) := by decide +kernel
theorem dX5_weighs_290 : decode cX5_weighs 290 = .ok (.getfield 16, 3) := by decide +kernel
theorem dX5_weighs_293 : decode cX5_weighs 293 = .ok (.iload_n 2, 1) := by decide +kernel
theorem dX5_weighs_294 : decode cX5_weighs 294 = .ok (.iaload, 1) := by decide +kernel
theorem dX5_weighs_295 : decode cX5_weighs 295 = .ok (.iload 10, 2) := by decide +kernel
theorem dX5_weighs_297 : decode cX5_weighs 297 = .ok (.if_icmp .ge 12, 3) := by decide +kernel
theorem dX5_weighs_300 : decode cX5_weighs 300 = .ok (.aload_n 0, 1) := by decide +kernel
theorem dX5_weighs_301 : decode cX5_weighs 301 = .ok (.getfield 16, 3) := by decide +kernel
theorem dX5_weighs_304 : decode cX5_weighs 304 = .ok (.iload_n 2, 1) := by decide +kernel
theorem dX5_weighs_305 : decode cX5_weighs 305 = .ok (.iaload, 1) := by decide +kernel
theorem dX5_weighs_306 : decode cX5_weighs 306 = .ok (.goto 5, 3) := by decide +kernel
theorem dX5_weighs_309 : decode cX5_weighs 309 = .ok (.iload 10, 2) := by decide +kernel
theorem dX5_weighs_311 : decode cX5_weighs 311 = .ok (.istore 11, 2) := by decide +kernel
theorem dX5_weighs_313 : decode cX5_weighs 313 = .ok (.aload_n 0, 1) := by decide +kernel
theorem dX5_weighs_314 : decode cX5_weighs 314 = .ok (.getfield 19, 3) := by decide +kernel
theorem dX5_weighs_317 : decode cX5_weighs 317 = .ok (.iload_n 2, 1) := by decide +kernel
theorem dX5_weighs_318 : decode cX5_weighs 318 = .ok (.iload 11, 2) := by decide +kernel
theorem dX5_weighs_320 : decode cX5_weighs 320 = .ok (.iload_n 3, 1) := by decide +kernel
theorem dX5_weighs_321 : decode cX5_weighs 321 = .ok (.if_icmp .ge 7, 3) := by decide +kernel
theorem dX5_weighs_324 : decode cX5_weighs 324 = .ok (.iload_n 3, 1) := by decide +kernel
theorem dX5_weighs_325 : decode cX5_weighs 325 = .ok (.goto 5, 3) := by decide +kernel
theorem dX5_weighs_328 : decode cX5_weighs 328 = .ok (.iload 11, 2) := by decide +kernel
theorem dX5_weighs_330 : decode cX5_weighs 330 = .ok (.iastore, 1) := by decide +kernel
theorem dX5_weighs_331 : decode cX5_weighs 331 = .ok (.aload_n 0, 1) := by decide +kernel
theorem dX5_weighs_332 : decode cX5_weighs 332 = .ok (.getfield 19, 3) := by decide +kernel
theorem dX5_weighs_335 : decode cX5_weighs 335 = .ok (.iload_n 2, 1) := by decide +kernel
theorem dX5_weighs_336 : decode cX5_weighs 336 = .ok (.iaload, 1) := by decide +kernel
theorem dX5_weighs_337 : decode cX5_weighs 337 = .ok (.aload_n 0, 1) := by decide +kernel
theorem dX5_weighs_338 : decode cX5_weighs 338 = .ok (.getfield 7, 3) := by decide +kernel
theorem dX5_weighs_341 : decode cX5_weighs 341 = .ok (.iload_n 1, 1) := by decide +kernel
theorem dX5_weighs_342 : decode cX5_weighs 342 = .ok (.iload_n 2, 1) := by decide +kernel
theorem dX5_weighs_343 : decode cX5_weighs 343 = .ok (.iconst 0, 1) := by decide +kernel
theorem dX5_weighs_344 : decode cX5_weighs 344 = .ok (.invokestatic 40, 3) := by decide +kernel
theorem dX5_weighs_347 : decode cX5_weighs 347 = .ok (.iaload, 1) := by decide +kernel
theorem dX5_weighs_348 : decode cX5_weighs 348 = .ok (.if_icmp .ge 17, 3) := by decide +kernel
theorem dX5_weighs_351 : decode cX5_weighs 351 = .ok (.aload_n 0, 1) := by decide +kernel
theorem dX5_weighs_352 : decode cX5_weighs 352 = .ok (.getfield 7, 3) := by decide +kernel
theorem dX5_weighs_355 : decode cX5_weighs 355 = .ok (.iload_n 1, 1) := by decide +kernel
theorem dX5_weighs_356 : decode cX5_weighs 356 = .ok (.iload_n 2, 1) := by decide +kernel
theorem dX5_weighs_357 : decode cX5_weighs 357 = .ok (.iconst 0, 1) := by decide +kernel
theorem dX5_weighs_358 : decode cX5_weighs 358 = .ok (.invokestatic 40, 3) := by decide +kernel
theorem dX5_weighs_361 : decode cX5_weighs 361 = .ok (.iaload, 1) := by decide +kernel
theorem dX5_weighs_362 : decode cX5_weighs 362 = .ok (.goto 9, 3) := by decide +kernel
theorem dX5_weighs_365 : decode cX5_weighs 365 = .ok (.aload_n 0, 1) := by decide +kernel
theorem dX5_weighs_366 : decode cX5_weighs 366 = .ok (.getfield 19, 3) := by decide +kernel
theorem dX5_weighs_369 : decode cX5_weighs 369 = .ok (.iload_n 2, 1) := by decide +kernel
theorem dX5_weighs_370 : decode cX5_weighs 370 = .ok (.iaload, 1) := by decide +kernel
theorem dX5_weighs_371 : decode cX5_weighs 371 = .ok (.istore 11, 2) := by decide +kernel
theorem dX5_weighs_373 : decode cX5_weighs 373 = .ok (.aload_n 0, 1) := by decide +kernel
theorem dX5_weighs_374 : decode cX5_weighs 374 = .ok (.getfield 22, 3) := by decide +kernel
theorem dX5_weighs_377 : decode cX5_weighs 377 = .ok (.iload_n 2, 1) := by decide +kernel
theorem dX5_weighs_378 : decode cX5_weighs 378 = .ok (.iload 11, 2) := by decide +kernel
theorem dX5_weighs_380 : decode cX5_weighs 380 = .ok (.aload_n 0, 1) := by decide +kernel
theorem dX5_weighs_381 : decode cX5_weighs 381 = .ok (.getfield 7, 3) := by decide +kernel
theorem dX5_weighs_384 : decode cX5_weighs 384 = .ok (.iload_n 1, 1) := by decide +kernel
theorem dX5_weighs_385 : decode cX5_weighs 385 = .ok (.iload_n 2, 1) := by decide +kernel
theorem dX5_weighs_386 : decode cX5_weighs 386 = .ok (.iconst 1, 1) := by decide +kernel
theorem dX5_weighs_387 : decode cX5_weighs 387 = .ok (.invokestatic 40, 3) := by decide +kernel
theorem dX5_weighs_390 : decode cX5_weighs 390 = .ok (.iaload, 1) := by decide +kernel
theorem dX5_weighs_391 : decode cX5_weighs 391 = .ok (.if_icmp .le 17, 3) := by decide +kernel
theorem dX5_weighs_394 : decode cX5_weighs 394 = .ok (.aload_n 0, 1) := by decide +kernel
theorem dX5_weighs_395 : decode cX5_weighs 395 = .ok (.getfield 7, 3) := by decide +kernel
theorem dX5_weighs_398 : decode cX5_weighs 398 = .ok (.iload_n 1, 1) := by decide +kernel
theorem dX5_weighs_399 : decode cX5_weighs 399 = .ok (.iload_n 2, 1) := by decide +kernel
theorem dX5_weighs_400 : decode cX5_weighs 400 = .ok (.iconst 1, 1) := by decide +kernel
theorem dX5_weighs_401 : decode cX5_weighs 401 = .ok (.invokestatic 40, 3) := by decide +kernel
theorem dX5_weighs_404 : decode cX5_weighs 404 = .ok (.iaload, 1) := by decide +kernel
theorem dX5_weighs_405 : decode cX5_weighs 405 = .ok (.goto 5, 3) := by decide +kernel
theorem dX5_weighs_408 : decode cX5_weighs 408 = .ok (.iload 11, 2) := by decide +kernel
theorem dX5_weighs_410 : decode cX5_weighs 410 = .ok (.iastore, 1) := by decide +kernel
theorem dX5_weighs_411 : decode cX5_weighs 411 = .ok (.return_, 1) := by decide +kernel
theorem dX5_givesUp_0 : decode cX5_givesUp 0 = .ok (.aload_n 0, 1) := by decide +kernel
theorem dX5_givesUp_1 : decode cX5_givesUp 1 = .ok (.iload_n 1, 1) := by decide +kernel
theorem dX5_givesUp_2 : decode cX5_givesUp 2 = .ok (.iload_n 2, 1) := by decide +kernel
theorem dX5_givesUp_3 : decode cX5_givesUp 3 = .ok (.invokevirtual 56, 3) := by decide +kernel
theorem dX5_givesUp_6 : decode cX5_givesUp 6 = .ok (.aload_n 0, 1) := by decide +kernel
theorem dX5_givesUp_7 : decode cX5_givesUp 7 = .ok (.getfield 22, 3) := by decide +kernel
theorem dX5_givesUp_10 : decode cX5_givesUp 10 = .ok (.iload_n 2, 1) := by decide +kernel
theorem dX5_givesUp_11 : decode cX5_givesUp 11 = .ok (.iaload, 1) := by decide +kernel
theorem dX5_givesUp_12 : decode cX5_givesUp 12 = .ok (.isub, 1) := by decide +kernel
theorem dX5_givesUp_13 : decode cX5_givesUp 13 = .ok (.istore_n 3, 1) := by decide +kernel
theorem dX5_givesUp_14 : decode cX5_givesUp 14 = .ok (.aload_n 0, 1) := by decide +kernel
theorem dX5_givesUp_15 : decode cX5_givesUp 15 = .ok (.getfield 34, 3) := by decide +kernel
theorem dX5_givesUp_18 : decode cX5_givesUp 18 = .ok (.iload_n 2, 1) := by decide +kernel
theorem dX5_givesUp_19 : decode cX5_givesUp 19 = .ok (.iload_n 3, 1) := by decide +kernel
theorem dX5_givesUp_20 : decode cX5_givesUp 20 = .ok (.ifCond .le 7, 3) := by decide +kernel
theorem dX5_givesUp_23 : decode cX5_givesUp 23 = .ok (.iload_n 3, 1) := by decide +kernel
theorem dX5_givesUp_24 : decode cX5_givesUp 24 = .ok (.goto 4, 3) := by decide +kernel
theorem dX5_givesUp_27 : decode cX5_givesUp 27 = .ok (.iconst 0, 1) := by decide +kernel
theorem dX5_givesUp_28 : decode cX5_givesUp 28 = .ok (.iastore, 1) := by decide +kernel
theorem dX5_givesUp_29 : decode cX5_givesUp 29 = .ok (.bipush 6, 2) := by decide +kernel
theorem dX5_givesUp_31 : decode cX5_givesUp 31 = .ok (.istore 4, 2) := by decide +kernel
theorem dX5_givesUp_33 : decode cX5_givesUp 33 = .ok (.iload 4, 2) := by decide +kernel
theorem dX5_givesUp_35 : decode cX5_givesUp 35 = .ok (.ifCond .lt 78, 3) := by decide +kernel
theorem dX5_givesUp_38 : decode cX5_givesUp 38 = .ok (.iload_n 3, 1) := by decide +kernel
theorem dX5_givesUp_39 : decode cX5_givesUp 39 = .ok (.ifCond .le 74, 3) := by decide +kernel
theorem dX5_givesUp_42 : decode cX5_givesUp 42 = .ok (.aload_n 0, 1) := by decide +kernel
theorem dX5_givesUp_43 : decode cX5_givesUp 43 = .ok (.getfield 7, 3) := by decide +kernel
theorem dX5_givesUp_46 : decode cX5_givesUp 46 = .ok (.iload_n 1, 1) := by decide +kernel
theorem dX5_givesUp_47 : decode cX5_givesUp 47 = .ok (.iload_n 2, 1) := by decide +kernel
theorem dX5_givesUp_48 : decode cX5_givesUp 48 = .ok (.bipush 11, 2) := by decide +kernel
theorem dX5_givesUp_50 : decode cX5_givesUp 50 = .ok (.iload 4, 2) := by decide +kernel
theorem dX5_givesUp_52 : decode cX5_givesUp 52 = .ok (.iadd, 1) := by decide +kernel
theorem dX5_givesUp_53 : decode cX5_givesUp 53 = .ok (.invokestatic 40, 3) := by decide +kernel
theorem dX5_givesUp_56 : decode cX5_givesUp 56 = .ok (.iaload, 1) := by decide +kernel
theorem dX5_givesUp_57 : decode cX5_givesUp 57 = .ok (.iload_n 3, 1) := by decide +kernel
theorem dX5_givesUp_58 : decode cX5_givesUp 58 = .ok (.if_icmp .ge 21, 3) := by decide +kernel
theorem dX5_givesUp_61 : decode cX5_givesUp 61 = .ok (.aload_n 0, 1) := by decide +kernel
theorem dX5_givesUp_62 : decode cX5_givesUp 62 = .ok (.getfield 7, 3) := by decide +kernel
theorem dX5_givesUp_65 : decode cX5_givesUp 65 = .ok (.iload_n 1, 1) := by decide +kernel
theorem dX5_givesUp_66 : decode cX5_givesUp 66 = .ok (.iload_n 2, 1) := by decide +kernel
theorem dX5_givesUp_67 : decode cX5_givesUp 67 = .ok (.bipush 11, 2) := by decide +kernel
theorem dX5_givesUp_69 : decode cX5_givesUp 69 = .ok (.iload 4, 2) := by decide +kernel
theorem dX5_givesUp_71 : decode cX5_givesUp 71 = .ok (.iadd, 1) := by decide +kernel
theorem dX5_givesUp_72 : decode cX5_givesUp 72 = .ok (.invokestatic 40, 3) := by decide +kernel
theorem dX5_givesUp_75 : decode cX5_givesUp 75 = .ok (.iaload, 1) := by decide +kernel
theorem dX5_givesUp_76 : decode cX5_givesUp 76 = .ok (.goto 4, 3) := by decide +kernel
theorem dX5_givesUp_79 : decode cX5_givesUp 79 = .ok (.iload_n 3, 1) := by decide +kernel
theorem dX5_givesUp_80 : decode cX5_givesUp 80 = .ok (.istore 5, 2) := by decide +kernel
theorem dX5_givesUp_82 : decode cX5_givesUp 82 = .ok (.aload_n 0, 1) := by decide +kernel
theorem dX5_givesUp_83 : decode cX5_givesUp 83 = .ok (.getfield 7, 3) := by decide +kernel
theorem dX5_givesUp_86 : decode cX5_givesUp 86 = .ok (.iload_n 1, 1) := by decide +kernel
theorem dX5_givesUp_87 : decode cX5_givesUp 87 = .ok (.iload_n 2, 1) := by decide +kernel
theorem dX5_givesUp_88 : decode cX5_givesUp 88 = .ok (.bipush 11, 2) := by decide +kernel
theorem dX5_givesUp_90 : decode cX5_givesUp 90 = .ok (.iload 4, 2) := by decide +kernel
theorem dX5_givesUp_92 : decode cX5_givesUp 92 = .ok (.iadd, 1) := by decide +kernel
theorem dX5_givesUp_93 : decode cX5_givesUp 93 = .ok (.invokestatic 40, 3) := by decide +kernel
theorem dX5_givesUp_96 : decode cX5_givesUp 96 = .ok (.dup2, 1) := by decide +kernel
theorem dX5_givesUp_97 : decode cX5_givesUp 97 = .ok (.iaload, 1) := by decide +kernel
theorem dX5_givesUp_98 : decode cX5_givesUp 98 = .ok (.iload 5, 2) := by decide +kernel
theorem dX5_givesUp_100 : decode cX5_givesUp 100 = .ok (.isub, 1) := by decide +kernel
theorem dX5_givesUp_101 : decode cX5_givesUp 101 = .ok (.iastore, 1) := by decide +kernel
theorem dX5_givesUp_102 : decode cX5_givesUp 102 = .ok (.iload_n 3, 1) := by decide +kernel
theorem dX5_givesUp_103 : decode cX5_givesUp 103 = .ok (.iload 5, 2) := by decide +kernel
theorem dX5_givesUp_105 : decode cX5_givesUp 105 = .ok (.isub, 1) := by decide +kernel
theorem dX5_givesUp_106 : decode cX5_givesUp 106 = .ok (.istore_n 3, 1) := by decide +kernel
theorem dX5_givesUp_107 : decode cX5_givesUp 107 = .ok (.iinc 4 (-1), 3) := by decide +kernel
theorem dX5_givesUp_110 : decode cX5_givesUp 110 = .ok (.goto (-77), 3) := by decide +kernel
theorem dX5_givesUp_113 : decode cX5_givesUp 113 = .ok (.aload_n 0, 1) := by decide +kernel
theorem dX5_givesUp_114 : decode cX5_givesUp 114 = .ok (.getfield 7, 3) := by decide +kernel
theorem dX5_givesUp_117 : decode cX5_givesUp 117 = .ok (.iload_n 1, 1) := by decide +kernel
theorem dX5_givesUp_118 : decode cX5_givesUp 118 = .ok (.iload_n 2, 1) := by decide +kernel
theorem dX5_givesUp_119 : decode cX5_givesUp 119 = .ok (.bipush 10, 2) := by decide +kernel
theorem dX5_givesUp_121 : decode cX5_givesUp 121 = .ok (.invokestatic 40, 3) := by decide +kernel
theorem dX5_givesUp_124 : decode cX5_givesUp 124 = .ok (.dup2, 1) := by decide +kernel
theorem dX5_givesUp_125 : decode cX5_givesUp 125 = .ok (.iaload, 1) := by decide +kernel
theorem dX5_givesUp_126 : decode cX5_givesUp 126 = .ok (.iload_n 3, 1) := by decide +kernel
theorem dX5_givesUp_127 : decode cX5_givesUp 127 = .ok (.ifCond .le 7, 3) := by decide +kernel
theorem dX5_givesUp_130 : decode cX5_givesUp 130 = .ok (.iload_n 3, 1) := by decide +kernel
theorem dX5_givesUp_131 : decode cX5_givesUp 131 = .ok (.goto 4, 3) := by decide +kernel
theorem dX5_givesUp_134 : decode cX5_givesUp 134 = .ok (.iconst 0, 1) := by decide +kernel
theorem dX5_givesUp_135 : decode cX5_givesUp 135 = .ok (.isub, 1) := by decide +kernel
theorem dX5_givesUp_136 : decode cX5_givesUp 136 = .ok (.iastore, 1) := by decide +kernel
theorem dX5_givesUp_137 : decode cX5_givesUp 137 = .ok (.return_, 1) := by decide +kernel
theorem dX5_isAhead_0 : decode cX5_isAhead 0 = .ok (.aload_n 0, 1) := by decide +kernel
theorem dX5_isAhead_1 : decode cX5_isAhead 1 = .ok (.getfield 7, 3) := by decide +kernel
theorem dX5_isAhead_4 : decode cX5_isAhead 4 = .ok (.iload_n 1, 1) := by decide +kernel
theorem dX5_isAhead_5 : decode cX5_isAhead 5 = .ok (.iload_n 2, 1) := by decide +kernel
theorem dX5_isAhead_6 : decode cX5_isAhead 6 = .ok (.iconst 2, 1) := by decide +kernel
theorem dX5_isAhead_7 : decode cX5_isAhead 7 = .ok (.invokestatic 40, 3) := by decide +kernel
theorem dX5_isAhead_10 : decode cX5_isAhead 10 = .ok (.iaload, 1) := by decide +kernel
theorem dX5_isAhead_11 : decode cX5_isAhead 11 = .ok (.aload_n 0, 1) := by decide +kernel
theorem dX5_isAhead_12 : decode cX5_isAhead 12 = .ok (.getfield 7, 3) := by decide +kernel
theorem dX5_isAhead_15 : decode cX5_isAhead 15 = .ok (.iload_n 1, 1) := by decide +kernel
theorem dX5_isAhead_16 : decode cX5_isAhead 16 = .ok (.iload_n 3, 1) := by decide +kernel
theorem dX5_isAhead_17 : decode cX5_isAhead 17 = .ok (.iconst 2, 1) := by decide +kernel
theorem dX5_isAhead_18 : decode cX5_isAhead 18 = .ok (.invokestatic 40, 3) := by decide +kernel
theorem dX5_isAhead_21 : decode cX5_isAhead 21 = .ok (.iaload, 1) := by decide +kernel
theorem dX5_isAhead_22 : decode cX5_isAhead 22 = .ok (.isub, 1) := by decide +kernel
theorem dX5_isAhead_23 : decode cX5_isAhead 23 = .ok (.istore 4, 2) := by decide +kernel
theorem dX5_isAhead_25 : decode cX5_isAhead 25 = .ok (.aload_n 0, 1) := by decide +kernel
theorem dX5_isAhead_26 : decode cX5_isAhead 26 = .ok (.getfield 25, 3) := by decide +kernel
theorem dX5_isAhead_29 : decode cX5_isAhead 29 = .ok (.iload_n 2, 1) := by decide +kernel
theorem dX5_isAhead_30 : decode cX5_isAhead 30 = .ok (.iaload, 1) := by decide +kernel
theorem dX5_isAhead_31 : decode cX5_isAhead 31 = .ok (.aload_n 0, 1) := by decide +kernel
theorem dX5_isAhead_32 : decode cX5_isAhead 32 = .ok (.getfield 22, 3) := by decide +kernel
theorem dX5_isAhead_35 : decode cX5_isAhead 35 = .ok (.iload_n 3, 1) := by decide +kernel
theorem dX5_isAhead_36 : decode cX5_isAhead 36 = .ok (.iaload, 1) := by decide +kernel
theorem dX5_isAhead_37 : decode cX5_isAhead 37 = .ok (.imul, 1) := by decide +kernel
theorem dX5_isAhead_38 : decode cX5_isAhead 38 = .ok (.aload_n 0, 1) := by decide +kernel
theorem dX5_isAhead_39 : decode cX5_isAhead 39 = .ok (.getfield 25, 3) := by decide +kernel
theorem dX5_isAhead_42 : decode cX5_isAhead 42 = .ok (.iload_n 3, 1) := by decide +kernel
theorem dX5_isAhead_43 : decode cX5_isAhead 43 = .ok (.iaload, 1) := by decide +kernel
theorem dX5_isAhead_44 : decode cX5_isAhead 44 = .ok (.aload_n 0, 1) := by decide +kernel
theorem dX5_isAhead_45 : decode cX5_isAhead 45 = .ok (.getfield 22, 3) := by decide +kernel
theorem dX5_isAhead_48 : decode cX5_isAhead 48 = .ok (.iload_n 2, 1) := by decide +kernel
theorem dX5_isAhead_49 : decode cX5_isAhead 49 = .ok (.iaload, 1) := by decide +kernel
theorem dX5_isAhead_50 : decode cX5_isAhead 50 = .ok (.imul, 1) := by decide +kernel
theorem dX5_isAhead_51 : decode cX5_isAhead 51 = .ok (.isub, 1) := by decide +kernel
theorem dX5_isAhead_52 : decode cX5_isAhead 52 = .ok (.istore 5, 2) := by decide +kernel
theorem dX5_isAhead_54 : decode cX5_isAhead 54 = .ok (.iload 4, 2) := by decide +kernel
theorem dX5_isAhead_56 : decode cX5_isAhead 56 = .ok (.ifCond .gt 23, 3) := by decide +kernel
theorem dX5_isAhead_59 : decode cX5_isAhead 59 = .ok (.iload 4, 2) := by decide +kernel
theorem dX5_isAhead_61 : decode cX5_isAhead 61 = .ok (.ifCond .ne 22, 3) := by decide +kernel
theorem dX5_isAhead_64 : decode cX5_isAhead 64 = .ok (.iload 5, 2) := by decide +kernel
theorem dX5_isAhead_66 : decode cX5_isAhead 66 = .ok (.ifCond .lt 13, 3) := by decide +kernel
theorem dX5_isAhead_69 : decode cX5_isAhead 69 = .ok (.iload 5, 2) := by decide +kernel
theorem dX5_isAhead_71 : decode cX5_isAhead 71 = .ok (.ifCond .ne 12, 3) := by decide +kernel
theorem dX5_isAhead_74 : decode cX5_isAhead 74 = .ok (.iload_n 2, 1) := by decide +kernel
theorem dX5_isAhead_75 : decode cX5_isAhead 75 = .ok (.iload_n 3, 1) := by decide +kernel
theorem dX5_isAhead_76 : decode cX5_isAhead 76 = .ok (.if_icmp .ge 7, 3) := by decide +kernel
theorem dX5_isAhead_79 : decode cX5_isAhead 79 = .ok (.iconst 1, 1) := by decide +kernel
theorem dX5_isAhead_80 : decode cX5_isAhead 80 = .ok (.goto 4, 3) := by decide +kernel
theorem dX5_isAhead_83 : decode cX5_isAhead 83 = .ok (.iconst 0, 1) := by decide +kernel
theorem dX5_isAhead_84 : decode cX5_isAhead 84 = .ok (.ireturn, 1) := by decide +kernel
theorem dX5_gets_0 : decode cX5_gets 0 = .ok (.aload_n 0, 1) := by decide +kernel
theorem dX5_gets_1 : decode cX5_gets 1 = .ok (.iload_n 1, 1) := by decide +kernel
theorem dX5_gets_2 : decode cX5_gets 2 = .ok (.bipush 7, 2) := by decide +kernel
theorem dX5_gets_4 : decode cX5_gets 4 = .ok (.invokevirtual 52, 3) := by decide +kernel
theorem dX5_gets_7 : decode cX5_gets 7 = .ok (.istore_n 2, 1) := by decide +kernel
theorem dX5_gets_8 : decode cX5_gets 8 = .ok (.iconst 0, 1) := by decide +kernel
theorem dX5_gets_9 : decode cX5_gets 9 = .ok (.istore_n 3, 1) := by decide +kernel
theorem dX5_gets_10 : decode cX5_gets 10 = .ok (.iload_n 3, 1) := by decide +kernel
theorem dX5_gets_11 : decode cX5_gets 11 = .ok (.iload_n 2, 1) := by decide +kernel
theorem dX5_gets_12 : decode cX5_gets 12 = .ok (.if_icmp .ge 28, 3) := by decide +kernel
theorem dX5_gets_15 : decode cX5_gets 15 = .ok (.aload_n 0, 1) := by decide +kernel
theorem dX5_gets_16 : decode cX5_gets 16 = .ok (.getfield 25, 3) := by decide +kernel
theorem dX5_gets_19 : decode cX5_gets 19 = .ok (.iload_n 3, 1) := by decide +kernel
theorem dX5_gets_20 : decode cX5_gets 20 = .ok (.aload_n 0, 1) := by decide +kernel
theorem dX5_gets_21 : decode cX5_gets 21 = .ok (.iload_n 1, 1) := by decide +kernel
theorem dX5_gets_22 : decode cX5_gets 22 = .ok (.iload_n 3, 1) := by decide +kernel
theorem dX5_gets_23 : decode cX5_gets 23 = .ok (.invokevirtual 56, 3) := by decide +kernel
theorem dX5_gets_26 : decode cX5_gets 26 = .ok (.iastore, 1) := by decide +kernel
theorem dX5_gets_27 : decode cX5_gets 27 = .ok (.aload_n 0, 1) := by decide +kernel
theorem dX5_gets_28 : decode cX5_gets 28 = .ok (.getfield 31, 3) := by decide +kernel
theorem dX5_gets_31 : decode cX5_gets 31 = .ok (.iload_n 3, 1) := by decide +kernel
theorem dX5_gets_32 : decode cX5_gets 32 = .ok (.iconst 0, 1) := by decide +kernel
theorem dX5_gets_33 : decode cX5_gets 33 = .ok (.iastore, 1) := by decide +kernel
theorem dX5_gets_34 : decode cX5_gets 34 = .ok (.iinc 3 1, 3) := by decide +kernel
theorem dX5_gets_37 : decode cX5_gets 37 = .ok (.goto (-27), 3) := by decide +kernel
theorem dX5_gets_40 : decode cX5_gets 40 = .ok (.iconst 0, 1) := by decide +kernel
theorem dX5_gets_41 : decode cX5_gets 41 = .ok (.istore_n 3, 1) := by decide +kernel
theorem dX5_gets_42 : decode cX5_gets 42 = .ok (.iload_n 3, 1) := by decide +kernel
theorem dX5_gets_43 : decode cX5_gets 43 = .ok (.iload_n 2, 1) := by decide +kernel
theorem dX5_gets_44 : decode cX5_gets 44 = .ok (.if_icmp .ge 107, 3) := by decide +kernel
theorem dX5_gets_47 : decode cX5_gets 47 = .ok (.aload_n 0, 1) := by decide +kernel
theorem dX5_gets_48 : decode cX5_gets 48 = .ok (.getfield 28, 3) := by decide +kernel
theorem dX5_gets_51 : decode cX5_gets 51 = .ok (.iload_n 3, 1) := by decide +kernel
theorem dX5_gets_52 : decode cX5_gets 52 = .ok (.aload_n 0, 1) := by decide +kernel
theorem dX5_gets_53 : decode cX5_gets 53 = .ok (.getfield 25, 3) := by decide +kernel
theorem dX5_gets_56 : decode cX5_gets 56 = .ok (.iload_n 3, 1) := by decide +kernel
theorem dX5_gets_57 : decode cX5_gets 57 = .ok (.iaload, 1) := by decide +kernel
theorem dX5_gets_58 : decode cX5_gets 58 = .ok (.aload_n 0, 1) := by decide +kernel
theorem dX5_gets_59 : decode cX5_gets 59 = .ok (.getfield 22, 3) := by decide +kernel
theorem dX5_gets_62 : decode cX5_gets 62 = .ok (.iload_n 3, 1) := by decide +kernel
theorem dX5_gets_63 : decode cX5_gets 63 = .ok (.iaload, 1) := by decide +kernel
theorem dX5_gets_64 : decode cX5_gets 64 = .ok (.if_icmp .ge 7, 3) := by decide +kernel
theorem dX5_gets_67 : decode cX5_gets 67 = .ok (.iconst 0, 1) := by decide +kernel
theorem dX5_gets_68 : decode cX5_gets 68 = .ok (.goto 4, 3) := by decide +kernel
theorem dX5_gets_71 : decode cX5_gets 71 = .ok (.iconst (-1), 1) := by decide +kernel
theorem dX5_gets_72 : decode cX5_gets 72 = .ok (.iastore, 1) := by decide +kernel
theorem dX5_gets_73 : decode cX5_gets 73 = .ok (.iconst 0, 1) := by decide +kernel
theorem dX5_gets_74 : decode cX5_gets 74 = .ok (.istore 4, 2) := by decide +kernel
theorem dX5_gets_76 : decode cX5_gets 76 = .ok (.iload 4, 2) := by decide +kernel
theorem dX5_gets_78 : decode cX5_gets 78 = .ok (.iload_n 2, 1) := by decide +kernel
theorem dX5_gets_79 : decode cX5_gets 79 = .ok (.if_icmp .ge 66, 3) := by decide +kernel
theorem dX5_gets_82 : decode cX5_gets 82 = .ok (.aload_n 0, 1) := by decide +kernel
theorem dX5_gets_83 : decode cX5_gets 83 = .ok (.getfield 28, 3) := by decide +kernel
theorem dX5_gets_86 : decode cX5_gets 86 = .ok (.iload_n 3, 1) := by decide +kernel
theorem dX5_gets_87 : decode cX5_gets 87 = .ok (.dup2, 1) := by decide +kernel
theorem dX5_gets_88 : decode cX5_gets 88 = .ok (.iaload, 1) := by decide +kernel
theorem dX5_gets_89 : decode cX5_gets 89 = .ok (.aload_n 0, 1) := by decide +kernel
theorem dX5_gets_90 : decode cX5_gets 90 = .ok (.getfield 28, 3) := by decide +kernel
theorem dX5_gets_93 : decode cX5_gets 93 = .ok (.iload_n 3, 1) := by decide +kernel
theorem dX5_gets_94 : decode cX5_gets 94 = .ok (.iaload, 1) := by decide +kernel
theorem dX5_gets_95 : decode cX5_gets 95 = .ok (.ifCond .lt 41, 3) := by decide +kernel
theorem dX5_gets_98 : decode cX5_gets 98 = .ok (.iload 4, 2) := by decide +kernel
theorem dX5_gets_100 : decode cX5_gets 100 = .ok (.iload_n 3, 1) := by decide +kernel
theorem dX5_gets_101 : decode cX5_gets 101 = .ok (.if_icmp .eq 35, 3) := by decide +kernel
theorem dX5_gets_104 : decode cX5_gets 104 = .ok (.aload_n 0, 1) := by decide +kernel
theorem dX5_gets_105 : decode cX5_gets 105 = .ok (.getfield 25, 3) := by decide +kernel
theorem dX5_gets_108 : decode cX5_gets 108 = .ok (.iload 4, 2) := by decide +kernel
theorem dX5_gets_110 : decode cX5_gets 110 = .ok (.iaload, 1) := by decide +kernel
theorem dX5_gets_111 : decode cX5_gets 111 = .ok (.aload_n 0, 1) := by decide +kernel
theorem dX5_gets_112 : decode cX5_gets 112 = .ok (.getfield 22, 3) := by decide +kernel
theorem dX5_gets_115 : decode cX5_gets 115 = .ok (.iload 4, 2) := by decide +kernel
theorem dX5_gets_117 : decode cX5_gets 117 = .ok (.iaload, 1) := by decide +kernel
theorem dX5_gets_118 : decode cX5_gets 118 = .ok (.if_icmp .ge 18, 3) := by decide +kernel
theorem dX5_gets_121 : decode cX5_gets 121 = .ok (.aload_n 0, 1) := by decide +kernel
theorem dX5_gets_122 : decode cX5_gets 122 = .ok (.iload_n 1, 1) := by decide +kernel
theorem dX5_gets_123 : decode cX5_gets 123 = .ok (.iload 4, 2) := by decide +kernel
theorem dX5_gets_125 : decode cX5_gets 125 = .ok (.iload_n 3, 1) := by decide +kernel
theorem dX5_gets_126 : decode cX5_gets 126 = .ok (.invokevirtual 86, 3) := by decide +kernel
theorem dX5_gets_129 : decode cX5_gets 129 = .ok (.ifCond .eq 7, 3) := by decide +kernel
theorem dX5_gets_132 : decode cX5_gets 132 = .ok (.iconst 1, 1) := by decide +kernel
theorem dX5_gets_133 : decode cX5_gets 133 = .ok (.goto 4, 3) := by decide +kernel
theorem dX5_gets_136 : decode cX5_gets 136 = .ok (.iconst 0, 1) := by decide +kernel
theorem dX5_gets_137 : decode cX5_gets 137 = .ok (.iadd, 1) := by decide +kernel
theorem dX5_gets_138 : decode cX5_gets 138 = .ok (.iastore, 1) := by decide +kernel
theorem dX5_gets_139 : decode cX5_gets 139 = .ok (.iinc 4 1, 3) := by decide +kernel
theorem dX5_gets_142 : decode cX5_gets 142 = .ok (.goto (-66), 3) := by decide +kernel
theorem dX5_gets_145 : decode cX5_gets 145 = .ok (.iinc 3 1, 3) := by decide +kernel
theorem dX5_gets_148 : decode cX5_gets 148 = .ok (.goto (-106), 3) := by decide +kernel
theorem dX5_gets_151 : decode cX5_gets 151 = .ok (.iconst 0, 1) := by decide +kernel
theorem dX5_gets_152 : decode cX5_gets 152 = .ok (.istore_n 3, 1) := by decide +kernel
theorem dX5_gets_153 : decode cX5_gets 153 = .ok (.iload_n 3, 1) := by decide +kernel
theorem dX5_gets_154 : decode cX5_gets 154 = .ok (.iload_n 2, 1) := by decide +kernel
theorem dX5_gets_155 : decode cX5_gets 155 = .ok (.if_icmp .ge 42, 3) := by decide +kernel
theorem dX5_gets_158 : decode cX5_gets 158 = .ok (.iconst 0, 1) := by decide +kernel
theorem dX5_gets_159 : decode cX5_gets 159 = .ok (.istore 4, 2) := by decide +kernel
theorem dX5_gets_161 : decode cX5_gets 161 = .ok (.iload 4, 2) := by decide +kernel
theorem dX5_gets_163 : decode cX5_gets 163 = .ok (.iload_n 2, 1) := by decide +kernel
theorem dX5_gets_164 : decode cX5_gets 164 = .ok (.if_icmp .ge 27, 3) := by decide +kernel
theorem dX5_gets_167 : decode cX5_gets 167 = .ok (.aload_n 0, 1) := by decide +kernel
theorem dX5_gets_168 : decode cX5_gets 168 = .ok (.getfield 28, 3) := by decide +kernel
theorem dX5_gets_171 : decode cX5_gets 171 = .ok (.iload 4, 2) := by decide +kernel
theorem dX5_gets_173 : decode cX5_gets 173 = .ok (.iaload, 1) := by decide +kernel
theorem dX5_gets_174 : decode cX5_gets 174 = .ok (.iload_n 3, 1) := by decide +kernel
theorem dX5_gets_175 : decode cX5_gets 175 = .ok (.if_icmp .ne 10, 3) := by decide +kernel
theorem dX5_gets_178 : decode cX5_gets 178 = .ok (.aload_n 0, 1) := by decide +kernel
theorem dX5_gets_179 : decode cX5_gets 179 = .ok (.iload_n 1, 1) := by decide +kernel
theorem dX5_gets_180 : decode cX5_gets 180 = .ok (.iload 4, 2) := by decide +kernel
theorem dX5_gets_182 : decode cX5_gets 182 = .ok (.invokevirtual 90, 3) := by decide +kernel
theorem dX5_gets_185 : decode cX5_gets 185 = .ok (.iinc 4 1, 3) := by decide +kernel
theorem dX5_gets_188 : decode cX5_gets 188 = .ok (.goto (-27), 3) := by decide +kernel
theorem dX5_gets_191 : decode cX5_gets 191 = .ok (.iinc 3 1, 3) := by decide +kernel
theorem dX5_gets_194 : decode cX5_gets 194 = .ok (.goto (-41), 3) := by decide +kernel
theorem dX5_gets_197 : decode cX5_gets 197 = .ok (.return_, 1) := by decide +kernel
theorem dX5_getsOne_0 : decode cX5_getsOne 0 = .ok (.aload_n 0, 1) := by decide +kernel
theorem dX5_getsOne_1 : decode cX5_getsOne 1 = .ok (.iload_n 1, 1) := by decide +kernel
theorem dX5_getsOne_2 : decode cX5_getsOne 2 = .ok (.iconst 0, 1) := by decide +kernel
theorem dX5_getsOne_3 : decode cX5_getsOne 3 = .ok (.invokevirtual 52, 3) := by decide +kernel
theorem dX5_getsOne_6 : decode cX5_getsOne 6 = .ok (.aload_n 0, 1) := by decide +kernel
theorem dX5_getsOne_7 : decode cX5_getsOne 7 = .ok (.iload_n 1, 1) := by decide +kernel
theorem dX5_getsOne_8 : decode cX5_getsOne 8 = .ok (.invokevirtual 94, 3) := by decide +kernel
theorem dX5_getsOne_11 : decode cX5_getsOne 11 = .ok (.isub, 1) := by decide +kernel
theorem dX5_getsOne_12 : decode cX5_getsOne 12 = .ok (.istore_n 3, 1) := by decide +kernel
theorem dX5_getsOne_13 : decode cX5_getsOne 13 = .ok (.aload_n 0, 1) := by decide +kernel
theorem dX5_getsOne_14 : decode cX5_getsOne 14 = .ok (.getfield 22, 3) := by decide +kernel
theorem dX5_getsOne_17 : decode cX5_getsOne 17 = .ok (.iload_n 2, 1) := by decide +kernel
theorem dX5_getsOne_18 : decode cX5_getsOne 18 = .ok (.iaload, 1) := by decide +kernel
theorem dX5_getsOne_19 : decode cX5_getsOne 19 = .ok (.aload_n 0, 1) := by decide +kernel
theorem dX5_getsOne_20 : decode cX5_getsOne 20 = .ok (.getfield 25, 3) := by decide +kernel
theorem dX5_getsOne_23 : decode cX5_getsOne 23 = .ok (.iload_n 2, 1) := by decide +kernel
theorem dX5_getsOne_24 : decode cX5_getsOne 24 = .ok (.iaload, 1) := by decide +kernel
theorem dX5_getsOne_25 : decode cX5_getsOne 25 = .ok (.isub, 1) := by decide +kernel
theorem dX5_getsOne_26 : decode cX5_getsOne 26 = .ok (.istore 4, 2) := by decide +kernel
theorem dX5_getsOne_28 : decode cX5_getsOne 28 = .ok (.iload 4, 2) := by decide +kernel
theorem dX5_getsOne_30 : decode cX5_getsOne 30 = .ok (.iload_n 3, 1) := by decide +kernel
theorem dX5_getsOne_31 : decode cX5_getsOne 31 = .ok (.if_icmp .ge 8, 3) := by decide +kernel
theorem dX5_getsOne_34 : decode cX5_getsOne 34 = .ok (.iload 4, 2) := by decide +kernel
theorem dX5_getsOne_36 : decode cX5_getsOne 36 = .ok (.goto 4, 3) := by decide +kernel
theorem dX5_getsOne_39 : decode cX5_getsOne 39 = .ok (.iload_n 3, 1) := by decide +kernel
theorem dX5_getsOne_40 : decode cX5_getsOne 40 = .ok (.istore 5, 2) := by decide +kernel
theorem dX5_getsOne_42 : decode cX5_getsOne 42 = .ok (.aload_n 0, 1) := by decide +kernel
theorem dX5_getsOne_43 : decode cX5_getsOne 43 = .ok (.getfield 31, 3) := by decide +kernel
theorem dX5_getsOne_46 : decode cX5_getsOne 46 = .ok (.iload_n 2, 1) := by decide +kernel
theorem dX5_getsOne_47 : decode cX5_getsOne 47 = .ok (.iload 5, 2) := by decide +kernel
theorem dX5_getsOne_49 : decode cX5_getsOne 49 = .ok (.ifCond .le 8, 3) := by decide +kernel
theorem dX5_getsOne_52 : decode cX5_getsOne 52 = .ok (.iload 5, 2) := by decide +kernel
theorem dX5_getsOne_54 : decode cX5_getsOne 54 = .ok (.goto 4, 3) := by decide +kernel
theorem dX5_getsOne_57 : decode cX5_getsOne 57 = .ok (.iconst 0, 1) := by decide +kernel
theorem dX5_getsOne_58 : decode cX5_getsOne 58 = .ok (.iastore, 1) := by decide +kernel
theorem dX5_getsOne_59 : decode cX5_getsOne 59 = .ok (.aload_n 0, 1) := by decide +kernel
theorem dX5_getsOne_60 : decode cX5_getsOne 60 = .ok (.getfield 31, 3) := by decide +kernel
theorem dX5_getsOne_63 : decode cX5_getsOne 63 = .ok (.iload_n 2, 1) := by decide +kernel
theorem dX5_getsOne_64 : decode cX5_getsOne 64 = .ok (.iaload, 1) := by decide +kernel
theorem dX5_getsOne_65 : decode cX5_getsOne 65 = .ok (.aload_n 0, 1) := by decide +kernel
theorem dX5_getsOne_66 : decode cX5_getsOne 66 = .ok (.iload_n 1, 1) := by decide +kernel
theorem dX5_getsOne_67 : decode cX5_getsOne 67 = .ok (.iconst 5, 1) := by decide +kernel
theorem dX5_getsOne_68 : decode cX5_getsOne 68 = .ok (.invokevirtual 52, 3) := by decide +kernel
theorem dX5_getsOne_71 : decode cX5_getsOne 71 = .ok (.if_icmp .ge 12, 3) := by decide +kernel
theorem dX5_getsOne_74 : decode cX5_getsOne 74 = .ok (.aload_n 0, 1) := by decide +kernel
theorem dX5_getsOne_75 : decode cX5_getsOne 75 = .ok (.getfield 31, 3) := by decide +kernel
theorem dX5_getsOne_78 : decode cX5_getsOne 78 = .ok (.iload_n 2, 1) := by decide +kernel
theorem dX5_getsOne_79 : decode cX5_getsOne 79 = .ok (.iaload, 1) := by decide +kernel
theorem dX5_getsOne_80 : decode cX5_getsOne 80 = .ok (.goto 9, 3) := by decide +kernel
theorem dX5_getsOne_83 : decode cX5_getsOne 83 = .ok (.aload_n 0, 1) := by decide +kernel
theorem dX5_getsOne_84 : decode cX5_getsOne 84 = .ok (.iload_n 1, 1) := by decide +kernel
theorem dX5_getsOne_85 : decode cX5_getsOne 85 = .ok (.iconst 5, 1) := by decide +kernel
theorem dX5_getsOne_86 : decode cX5_getsOne 86 = .ok (.invokevirtual 52, 3) := by decide +kernel
theorem dX5_getsOne_89 : decode cX5_getsOne 89 = .ok (.istore 6, 2) := by decide +kernel
theorem dX5_getsOne_91 : decode cX5_getsOne 91 = .ok (.aload_n 0, 1) := by decide +kernel
theorem dX5_getsOne_92 : decode cX5_getsOne 92 = .ok (.iload_n 1, 1) := by decide +kernel
theorem dX5_getsOne_93 : decode cX5_getsOne 93 = .ok (.iconst 5, 1) := by decide +kernel
theorem dX5_getsOne_94 : decode cX5_getsOne 94 = .ok (.aload_n 0, 1) := by decide +kernel
theorem dX5_getsOne_95 : decode cX5_getsOne 95 = .ok (.iload_n 1, 1) := by decide +kernel
theorem dX5_getsOne_96 : decode cX5_getsOne 96 = .ok (.iconst 5, 1) := by decide +kernel
theorem dX5_getsOne_97 : decode cX5_getsOne 97 = .ok (.invokevirtual 52, 3) := by decide +kernel
theorem dX5_getsOne_100 : decode cX5_getsOne 100 = .ok (.iload 6, 2) := by decide +kernel
theorem dX5_getsOne_102 : decode cX5_getsOne 102 = .ok (.isub, 1) := by decide +kernel
theorem dX5_getsOne_103 : decode cX5_getsOne 103 = .ok (.invokevirtual 97, 3) := by decide +kernel
theorem dX5_getsOne_106 : decode cX5_getsOne 106 = .ok (.aload_n 0, 1) := by decide +kernel
theorem dX5_getsOne_107 : decode cX5_getsOne 107 = .ok (.getfield 7, 3) := by decide +kernel
theorem dX5_getsOne_110 : decode cX5_getsOne 110 = .ok (.iload_n 1, 1) := by decide +kernel
theorem dX5_getsOne_111 : decode cX5_getsOne 111 = .ok (.iload_n 2, 1) := by decide +kernel
theorem dX5_getsOne_112 : decode cX5_getsOne 112 = .ok (.bipush 12, 2) := by decide +kernel
theorem dX5_getsOne_114 : decode cX5_getsOne 114 = .ok (.invokestatic 40, 3) := by decide +kernel
theorem dX5_getsOne_117 : decode cX5_getsOne 117 = .ok (.dup2, 1) := by decide +kernel
theorem dX5_getsOne_118 : decode cX5_getsOne 118 = .ok (.iaload, 1) := by decide +kernel
theorem dX5_getsOne_119 : decode cX5_getsOne 119 = .ok (.iload 6, 2) := by decide +kernel
theorem dX5_getsOne_121 : decode cX5_getsOne 121 = .ok (.iadd, 1) := by decide +kernel
theorem dX5_getsOne_122 : decode cX5_getsOne 122 = .ok (.iastore, 1) := by decide +kernel
theorem dX5_getsOne_123 : decode cX5_getsOne 123 = .ok (.aload_n 0, 1) := by decide +kernel
theorem dX5_getsOne_124 : decode cX5_getsOne 124 = .ok (.getfield 7, 3) := by decide +kernel
theorem dX5_getsOne_127 : decode cX5_getsOne 127 = .ok (.iload_n 1, 1) := by decide +kernel
theorem dX5_getsOne_128 : decode cX5_getsOne 128 = .ok (.iload_n 2, 1) := by decide +kernel
theorem dX5_getsOne_129 : decode cX5_getsOne 129 = .ok (.bipush 11, 2) := by decide +kernel
theorem dX5_getsOne_131 : decode cX5_getsOne 131 = .ok (.aload_n 0, 1) := by decide +kernel
theorem dX5_getsOne_132 : decode cX5_getsOne 132 = .ok (.iload_n 1, 1) := by decide +kernel
theorem dX5_getsOne_133 : decode cX5_getsOne 133 = .ok (.iconst 1, 1) := by decide +kernel
theorem dX5_getsOne_134 : decode cX5_getsOne 134 = .ok (.invokevirtual 52, 3) := by decide +kernel
theorem dX5_getsOne_137 : decode cX5_getsOne 137 = .ok (.iadd, 1) := by decide +kernel
theorem dX5_getsOne_138 : decode cX5_getsOne 138 = .ok (.invokestatic 40, 3) := by decide +kernel
theorem dX5_getsOne_141 : decode cX5_getsOne 141 = .ok (.dup2, 1) := by decide +kernel
theorem dX5_getsOne_142 : decode cX5_getsOne 142 = .ok (.iaload, 1) := by decide +kernel
theorem dX5_getsOne_143 : decode cX5_getsOne 143 = .ok (.aload_n 0, 1) := by decide +kernel
theorem dX5_getsOne_144 : decode cX5_getsOne 144 = .ok (.getfield 31, 3) := by decide +kernel
theorem dX5_getsOne_147 : decode cX5_getsOne 147 = .ok (.iload_n 2, 1) := by decide +kernel
theorem dX5_getsOne_148 : decode cX5_getsOne 148 = .ok (.iaload, 1) := by decide +kernel
theorem dX5_getsOne_149 : decode cX5_getsOne 149 = .ok (.iload 6, 2) := by decide +kernel
theorem dX5_getsOne_151 : decode cX5_getsOne 151 = .ok (.isub, 1) := by decide +kernel
theorem dX5_getsOne_152 : decode cX5_getsOne 152 = .ok (.iadd, 1) := by decide +kernel
theorem dX5_getsOne_153 : decode cX5_getsOne 153 = .ok (.iastore, 1) := by decide +kernel
theorem dX5_getsOne_154 : decode cX5_getsOne 154 = .ok (.return_, 1) := by decide +kernel
theorem dX5_moves_0 : decode cX5_moves 0 = .ok (.aload_n 0, 1) := by decide +kernel
theorem dX5_moves_1 : decode cX5_moves 1 = .ok (.getfield 7, 3) := by decide +kernel
theorem dX5_moves_4 : decode cX5_moves 4 = .ok (.iload_n 1, 1) := by decide +kernel
theorem dX5_moves_5 : decode cX5_moves 5 = .ok (.iload_n 2, 1) := by decide +kernel
theorem dX5_moves_6 : decode cX5_moves 6 = .ok (.iload_n 3, 1) := by decide +kernel
theorem dX5_moves_7 : decode cX5_moves 7 = .ok (.iconst 2, 1) := by decide +kernel
theorem dX5_moves_8 : decode cX5_moves 8 = .ok (.iadd, 1) := by decide +kernel
theorem dX5_moves_9 : decode cX5_moves 9 = .ok (.invokestatic 40, 3) := by decide +kernel
theorem dX5_moves_12 : decode cX5_moves 12 = .ok (.aload_n 0, 1) := by decide +kernel
theorem dX5_moves_13 : decode cX5_moves 13 = .ok (.getfield 7, 3) := by decide +kernel
theorem dX5_moves_16 : decode cX5_moves 16 = .ok (.iload_n 1, 1) := by decide +kernel
theorem dX5_moves_17 : decode cX5_moves 17 = .ok (.iload_n 2, 1) := by decide +kernel
theorem dX5_moves_18 : decode cX5_moves 18 = .ok (.iload_n 3, 1) := by decide +kernel
theorem dX5_moves_19 : decode cX5_moves 19 = .ok (.iconst 1, 1) := by decide +kernel
theorem dX5_moves_20 : decode cX5_moves 20 = .ok (.iadd, 1) := by decide +kernel
theorem dX5_moves_21 : decode cX5_moves 21 = .ok (.invokestatic 40, 3) := by decide +kernel
theorem dX5_moves_24 : decode cX5_moves 24 = .ok (.iaload, 1) := by decide +kernel
theorem dX5_moves_25 : decode cX5_moves 25 = .ok (.iastore, 1) := by decide +kernel
theorem dX5_moves_26 : decode cX5_moves 26 = .ok (.aload_n 0, 1) := by decide +kernel
theorem dX5_moves_27 : decode cX5_moves 27 = .ok (.getfield 7, 3) := by decide +kernel
theorem dX5_moves_30 : decode cX5_moves 30 = .ok (.iload_n 1, 1) := by decide +kernel
theorem dX5_moves_31 : decode cX5_moves 31 = .ok (.iload_n 2, 1) := by decide +kernel
theorem dX5_moves_32 : decode cX5_moves 32 = .ok (.iload_n 3, 1) := by decide +kernel
theorem dX5_moves_33 : decode cX5_moves 33 = .ok (.iconst 1, 1) := by decide +kernel
theorem dX5_moves_34 : decode cX5_moves 34 = .ok (.iadd, 1) := by decide +kernel
theorem dX5_moves_35 : decode cX5_moves 35 = .ok (.invokestatic 40, 3) := by decide +kernel
theorem dX5_moves_38 : decode cX5_moves 38 = .ok (.aload_n 0, 1) := by decide +kernel
theorem dX5_moves_39 : decode cX5_moves 39 = .ok (.getfield 7, 3) := by decide +kernel
theorem dX5_moves_42 : decode cX5_moves 42 = .ok (.iload_n 1, 1) := by decide +kernel
theorem dX5_moves_43 : decode cX5_moves 43 = .ok (.iload_n 2, 1) := by decide +kernel
theorem dX5_moves_44 : decode cX5_moves 44 = .ok (.iload_n 3, 1) := by decide +kernel
theorem dX5_moves_45 : decode cX5_moves 45 = .ok (.invokestatic 40, 3) := by decide +kernel
theorem dX5_moves_48 : decode cX5_moves 48 = .ok (.iaload, 1) := by decide +kernel
theorem dX5_moves_49 : decode cX5_moves 49 = .ok (.iastore, 1) := by decide +kernel
theorem dX5_moves_50 : decode cX5_moves 50 = .ok (.aload_n 0, 1) := by decide +kernel
theorem dX5_moves_51 : decode cX5_moves 51 = .ok (.getfield 7, 3) := by decide +kernel
theorem dX5_moves_54 : decode cX5_moves 54 = .ok (.iload_n 1, 1) := by decide +kernel
theorem dX5_moves_55 : decode cX5_moves 55 = .ok (.iload_n 2, 1) := by decide +kernel
theorem dX5_moves_56 : decode cX5_moves 56 = .ok (.iload_n 3, 1) := by decide +kernel
theorem dX5_moves_57 : decode cX5_moves 57 = .ok (.invokestatic 40, 3) := by decide +kernel
theorem dX5_moves_60 : decode cX5_moves 60 = .ok (.iload 4, 2) := by decide +kernel
theorem dX5_moves_62 : decode cX5_moves 62 = .ok (.iastore, 1) := by decide +kernel
theorem dX5_moves_63 : decode cX5_moves 63 = .ok (.return_, 1) := by decide +kernel
theorem dX5_sums_0 : decode cX5_sums 0 = .ok (.aload_n 0, 1) := by decide +kernel
theorem dX5_sums_1 : decode cX5_sums 1 = .ok (.getfield 13, 3) := by decide +kernel
theorem dX5_sums_4 : decode cX5_sums 4 = .ok (.iload_n 2, 1) := by decide +kernel
theorem dX5_sums_5 : decode cX5_sums 5 = .ok (.iaload, 1) := by decide +kernel
theorem dX5_sums_6 : decode cX5_sums 6 = .ok (.aload_n 0, 1) := by decide +kernel
theorem dX5_sums_7 : decode cX5_sums 7 = .ok (.getfield 7, 3) := by decide +kernel
theorem dX5_sums_10 : decode cX5_sums 10 = .ok (.iload_n 1, 1) := by decide +kernel
theorem dX5_sums_11 : decode cX5_sums 11 = .ok (.iload_n 2, 1) := by decide +kernel
theorem dX5_sums_12 : decode cX5_sums 12 = .ok (.bipush 10, 2) := by decide +kernel
theorem dX5_sums_14 : decode cX5_sums 14 = .ok (.invokestatic 40, 3) := by decide +kernel
theorem dX5_sums_17 : decode cX5_sums 17 = .ok (.iaload, 1) := by decide +kernel
theorem dX5_sums_18 : decode cX5_sums 18 = .ok (.isub, 1) := by decide +kernel
theorem dX5_sums_19 : decode cX5_sums 19 = .ok (.istore_n 3, 1) := by decide +kernel
theorem dX5_sums_20 : decode cX5_sums 20 = .ok (.aload_n 0, 1) := by decide +kernel
theorem dX5_sums_21 : decode cX5_sums 21 = .ok (.getfield 7, 3) := by decide +kernel
theorem dX5_sums_24 : decode cX5_sums 24 = .ok (.iload_n 1, 1) := by decide +kernel
theorem dX5_sums_25 : decode cX5_sums 25 = .ok (.iload_n 2, 1) := by decide +kernel
theorem dX5_sums_26 : decode cX5_sums 26 = .ok (.bipush 32, 2) := by decide +kernel
theorem dX5_sums_28 : decode cX5_sums 28 = .ok (.invokestatic 40, 3) := by decide +kernel
theorem dX5_sums_31 : decode cX5_sums 31 = .ok (.dup2, 1) := by decide +kernel
theorem dX5_sums_32 : decode cX5_sums 32 = .ok (.iaload, 1) := by decide +kernel
theorem dX5_sums_33 : decode cX5_sums 33 = .ok (.aload_n 0, 1) := by decide +kernel
theorem dX5_sums_34 : decode cX5_sums 34 = .ok (.iload_n 1, 1) := by decide +kernel
theorem dX5_sums_35 : decode cX5_sums 35 = .ok (.iload_n 2, 1) := by decide +kernel
theorem dX5_sums_36 : decode cX5_sums 36 = .ok (.invokevirtual 56, 3) := by decide +kernel
theorem dX5_sums_39 : decode cX5_sums 39 = .ok (.iadd, 1) := by decide +kernel
theorem dX5_sums_40 : decode cX5_sums 40 = .ok (.iastore, 1) := by decide +kernel
theorem dX5_sums_41 : decode cX5_sums 41 = .ok (.aload_n 0, 1) := by decide +kernel
theorem dX5_sums_42 : decode cX5_sums 42 = .ok (.getfield 7, 3) := by decide +kernel
theorem dX5_sums_45 : decode cX5_sums 45 = .ok (.iload_n 1, 1) := by decide +kernel
theorem dX5_sums_46 : decode cX5_sums 46 = .ok (.iload_n 2, 1) := by decide +kernel
theorem dX5_sums_47 : decode cX5_sums 47 = .ok (.bipush 33, 2) := by decide +kernel
theorem dX5_sums_49 : decode cX5_sums 49 = .ok (.invokestatic 40, 3) := by decide +kernel
theorem dX5_sums_52 : decode cX5_sums 52 = .ok (.dup2, 1) := by decide +kernel
theorem dX5_sums_53 : decode cX5_sums 53 = .ok (.iaload, 1) := by decide +kernel
theorem dX5_sums_54 : decode cX5_sums 54 = .ok (.iload_n 3, 1) := by decide +kernel
theorem dX5_sums_55 : decode cX5_sums 55 = .ok (.ifCond .le 7, 3) := by decide +kernel
theorem dX5_sums_58 : decode cX5_sums 58 = .ok (.iload_n 3, 1) := by decide +kernel
theorem dX5_sums_59 : decode cX5_sums 59 = .ok (.goto 4, 3) := by decide +kernel
theorem dX5_sums_62 : decode cX5_sums 62 = .ok (.iconst 0, 1) := by decide +kernel
theorem dX5_sums_63 : decode cX5_sums 63 = .ok (.iadd, 1) := by decide +kernel
theorem dX5_sums_64 : decode cX5_sums 64 = .ok (.iastore, 1) := by decide +kernel
theorem dX5_sums_65 : decode cX5_sums 65 = .ok (.aload_n 0, 1) := by decide +kernel
theorem dX5_sums_66 : decode cX5_sums 66 = .ok (.getfield 7, 3) := by decide +kernel
theorem dX5_sums_69 : decode cX5_sums 69 = .ok (.iload_n 1, 1) := by decide +kernel
theorem dX5_sums_70 : decode cX5_sums 70 = .ok (.iload_n 2, 1) := by decide +kernel
theorem dX5_sums_71 : decode cX5_sums 71 = .ok (.bipush 31, 2) := by decide +kernel
theorem dX5_sums_73 : decode cX5_sums 73 = .ok (.invokestatic 40, 3) := by decide +kernel
theorem dX5_sums_76 : decode cX5_sums 76 = .ok (.iaload, 1) := by decide +kernel
theorem dX5_sums_77 : decode cX5_sums 77 = .ok (.istore 4, 2) := by decide +kernel
theorem dX5_sums_79 : decode cX5_sums 79 = .ok (.aload_n 0, 1) := by decide +kernel
theorem dX5_sums_80 : decode cX5_sums 80 = .ok (.getfield 7, 3) := by decide +kernel
theorem dX5_sums_83 : decode cX5_sums 83 = .ok (.iload_n 1, 1) := by decide +kernel
theorem dX5_sums_84 : decode cX5_sums 84 = .ok (.iload_n 2, 1) := by decide +kernel
theorem dX5_sums_85 : decode cX5_sums 85 = .ok (.bipush 34, 2) := by decide +kernel
theorem dX5_sums_87 : decode cX5_sums 87 = .ok (.invokestatic 40, 3) := by decide +kernel
theorem dX5_sums_90 : decode cX5_sums 90 = .ok (.dup2, 1) := by decide +kernel
theorem dX5_sums_91 : decode cX5_sums 91 = .ok (.iaload, 1) := by decide +kernel
theorem dX5_sums_92 : decode cX5_sums 92 = .ok (.aload_n 0, 1) := by decide +kernel
theorem dX5_sums_93 : decode cX5_sums 93 = .ok (.getfield 31, 3) := by decide +kernel
theorem dX5_sums_96 : decode cX5_sums 96 = .ok (.iload_n 2, 1) := by decide +kernel
theorem dX5_sums_97 : decode cX5_sums 97 = .ok (.iaload, 1) := by decide +kernel
theorem dX5_sums_98 : decode cX5_sums 98 = .ok (.ifCond .le 8, 3) := by decide +kernel
theorem dX5_sums_101 : decode cX5_sums 101 = .ok (.iload 4, 2) := by decide +kernel
theorem dX5_sums_103 : decode cX5_sums 103 = .ok (.ifCond .lt 17, 3) := by decide +kernel
theorem dX5_sums_106 : decode cX5_sums 106 = .ok (.aload_n 0, 1) := by decide +kernel
theorem dX5_sums_107 : decode cX5_sums 107 = .ok (.getfield 34, 3) := by decide +kernel
theorem dX5_sums_110 : decode cX5_sums 110 = .ok (.iload_n 2, 1) := by decide +kernel
theorem dX5_sums_111 : decode cX5_sums 111 = .ok (.iaload, 1) := by decide +kernel
theorem dX5_sums_112 : decode cX5_sums 112 = .ok (.ifCond .le 12, 3) := by decide +kernel
theorem dX5_sums_115 : decode cX5_sums 115 = .ok (.iload 4, 2) := by decide +kernel
theorem dX5_sums_117 : decode cX5_sums 117 = .ok (.ifCond .le 7, 3) := by decide +kernel
theorem dX5_sums_120 : decode cX5_sums 120 = .ok (.iconst 1, 1) := by decide +kernel
theorem dX5_sums_121 : decode cX5_sums 121 = .ok (.goto 4, 3) := by decide +kernel
theorem dX5_sums_124 : decode cX5_sums 124 = .ok (.iconst 0, 1) := by decide +kernel
theorem dX5_sums_125 : decode cX5_sums 125 = .ok (.iadd, 1) := by decide +kernel
theorem dX5_sums_126 : decode cX5_sums 126 = .ok (.iastore, 1) := by decide +kernel
theorem dX5_sums_127 : decode cX5_sums 127 = .ok (.aload_n 0, 1) := by decide +kernel
theorem dX5_sums_128 : decode cX5_sums 128 = .ok (.getfield 7, 3) := by decide +kernel
theorem dX5_sums_131 : decode cX5_sums 131 = .ok (.iload_n 1, 1) := by decide +kernel
theorem dX5_sums_132 : decode cX5_sums 132 = .ok (.iload_n 2, 1) := by decide +kernel
theorem dX5_sums_133 : decode cX5_sums 133 = .ok (.bipush 31, 2) := by decide +kernel
theorem dX5_sums_135 : decode cX5_sums 135 = .ok (.invokestatic 40, 3) := by decide +kernel
theorem dX5_sums_138 : decode cX5_sums 138 = .ok (.aload_n 0, 1) := by decide +kernel
theorem dX5_sums_139 : decode cX5_sums 139 = .ok (.getfield 31, 3) := by decide +kernel
theorem dX5_sums_142 : decode cX5_sums 142 = .ok (.iload_n 2, 1) := by decide +kernel
theorem dX5_sums_143 : decode cX5_sums 143 = .ok (.iaload, 1) := by decide +kernel
theorem dX5_sums_144 : decode cX5_sums 144 = .ok (.ifCond .le 7, 3) := by decide +kernel
theorem dX5_sums_147 : decode cX5_sums 147 = .ok (.iconst 1, 1) := by decide +kernel
theorem dX5_sums_148 : decode cX5_sums 148 = .ok (.goto 18, 3) := by decide +kernel
theorem dX5_sums_151 : decode cX5_sums 151 = .ok (.aload_n 0, 1) := by decide +kernel
theorem dX5_sums_152 : decode cX5_sums 152 = .ok (.getfield 34, 3) := by decide +kernel
theorem dX5_sums_155 : decode cX5_sums 155 = .ok (.iload_n 2, 1) := by decide +kernel
theorem dX5_sums_156 : decode cX5_sums 156 = .ok (.iaload, 1) := by decide +kernel
theorem dX5_sums_157 : decode cX5_sums 157 = .ok (.ifCond .le 7, 3) := by decide +kernel
theorem dX5_sums_160 : decode cX5_sums 160 = .ok (.iconst (-1), 1) := by decide +kernel
theorem dX5_sums_161 : decode cX5_sums 161 = .ok (.goto 5, 3) := by decide +kernel
theorem dX5_sums_164 : decode cX5_sums 164 = .ok (.iload 4, 2) := by decide +kernel
theorem dX5_sums_166 : decode cX5_sums 166 = .ok (.iastore, 1) := by decide +kernel
theorem dX5_sums_167 : decode cX5_sums 167 = .ok (.aload_n 0, 1) := by decide +kernel
theorem dX5_sums_168 : decode cX5_sums 168 = .ok (.iload_n 1, 1) := by decide +kernel
theorem dX5_sums_169 : decode cX5_sums 169 = .ok (.iload_n 2, 1) := by decide +kernel
theorem dX5_sums_170 : decode cX5_sums 170 = .ok (.bipush 25, 2) := by decide +kernel
theorem dX5_sums_172 : decode cX5_sums 172 = .ok (.aload_n 0, 1) := by decide +kernel
theorem dX5_sums_173 : decode cX5_sums 173 = .ok (.getfield 31, 3) := by decide +kernel
theorem dX5_sums_176 : decode cX5_sums 176 = .ok (.iload_n 2, 1) := by decide +kernel
theorem dX5_sums_177 : decode cX5_sums 177 = .ok (.iaload, 1) := by decide +kernel
theorem dX5_sums_178 : decode cX5_sums 178 = .ok (.invokevirtual 101, 3) := by decide +kernel
theorem dX5_sums_181 : decode cX5_sums 181 = .ok (.aload_n 0, 1) := by decide +kernel
theorem dX5_sums_182 : decode cX5_sums 182 = .ok (.iload_n 1, 1) := by decide +kernel
theorem dX5_sums_183 : decode cX5_sums 183 = .ok (.iload_n 2, 1) := by decide +kernel
theorem dX5_sums_184 : decode cX5_sums 184 = .ok (.bipush 28, 2) := by decide +kernel
theorem dX5_sums_186 : decode cX5_sums 186 = .ok (.aload_n 0, 1) := by decide +kernel
theorem dX5_sums_187 : decode cX5_sums 187 = .ok (.getfield 34, 3) := by decide +kernel
theorem dX5_sums_190 : decode cX5_sums 190 = .ok (.iload_n 2, 1) := by decide +kernel
theorem dX5_sums_191 : decode cX5_sums 191 = .ok (.iaload, 1) := by decide +kernel
theorem dX5_sums_192 : decode cX5_sums 192 = .ok (.invokevirtual 101, 3) := by decide +kernel
theorem dX5_sums_195 : decode cX5_sums 195 = .ok (.iconst 5, 1) := by decide +kernel
theorem dX5_sums_196 : decode cX5_sums 196 = .ok (.istore 5, 2) := by decide +kernel
theorem dX5_sums_198 : decode cX5_sums 198 = .ok (.iload 5, 2) := by decide +kernel
theorem dX5_sums_200 : decode cX5_sums 200 = .ok (.ifCond .le 41, 3) := by decide +kernel
theorem dX5_sums_203 : decode cX5_sums 203 = .ok (.aload_n 0, 1) := by decide +kernel
theorem dX5_sums_204 : decode cX5_sums 204 = .ok (.getfield 7, 3) := by decide +kernel
theorem dX5_sums_207 : decode cX5_sums 207 = .ok (.iload_n 1, 1) := by decide +kernel
theorem dX5_sums_208 : decode cX5_sums 208 = .ok (.iload_n 2, 1) := by decide +kernel
theorem dX5_sums_209 : decode cX5_sums 209 = .ok (.bipush 18, 2) := by decide +kernel
theorem dX5_sums_211 : decode cX5_sums 211 = .ok (.iload 5, 2) := by decide +kernel
theorem dX5_sums_213 : decode cX5_sums 213 = .ok (.iadd, 1) := by decide +kernel
theorem dX5_sums_214 : decode cX5_sums 214 = .ok (.invokestatic 40, 3) := by decide +kernel
theorem dX5_sums_217 : decode cX5_sums 217 = .ok (.aload_n 0, 1) := by decide +kernel
theorem dX5_sums_218 : decode cX5_sums 218 = .ok (.getfield 7, 3) := by decide +kernel
theorem dX5_sums_221 : decode cX5_sums 221 = .ok (.iload_n 1, 1) := by decide +kernel
theorem dX5_sums_222 : decode cX5_sums 222 = .ok (.iload_n 2, 1) := by decide +kernel
theorem dX5_sums_223 : decode cX5_sums 223 = .ok (.bipush 18, 2) := by decide +kernel
theorem dX5_sums_225 : decode cX5_sums 225 = .ok (.iload 5, 2) := by decide +kernel
theorem dX5_sums_227 : decode cX5_sums 227 = .ok (.iadd, 1) := by decide +kernel
theorem dX5_sums_228 : decode cX5_sums 228 = .ok (.iconst 1, 1) := by decide +kernel
theorem dX5_sums_229 : decode cX5_sums 229 = .ok (.isub, 1) := by decide +kernel
theorem dX5_sums_230 : decode cX5_sums 230 = .ok (.invokestatic 40, 3) := by decide +kernel
theorem dX5_sums_233 : decode cX5_sums 233 = .ok (.iaload, 1) := by decide +kernel
theorem dX5_sums_234 : decode cX5_sums 234 = .ok (.iastore, 1) := by decide +kernel
theorem dX5_sums_235 : decode cX5_sums 235 = .ok (.iinc 5 (-1), 3) := by decide +kernel
theorem dX5_sums_238 : decode cX5_sums 238 = .ok (.goto (-40), 3) := by decide +kernel
theorem dX5_sums_241 : decode cX5_sums 241 = .ok (.aload_n 0, 1) := by decide +kernel
theorem dX5_sums_242 : decode cX5_sums 242 = .ok (.getfield 7, 3) := by decide +kernel
theorem dX5_sums_245 : decode cX5_sums 245 = .ok (.iload_n 1, 1) := by decide +kernel
theorem dX5_sums_246 : decode cX5_sums 246 = .ok (.iload_n 2, 1) := by decide +kernel
theorem dX5_sums_247 : decode cX5_sums 247 = .ok (.bipush 18, 2) := by decide +kernel
theorem dX5_sums_249 : decode cX5_sums 249 = .ok (.invokestatic 40, 3) := by decide +kernel
theorem dX5_sums_252 : decode cX5_sums 252 = .ok (.aload_n 0, 1) := by decide +kernel
theorem dX5_sums_253 : decode cX5_sums 253 = .ok (.getfield 13, 3) := by decide +kernel
theorem dX5_sums_256 : decode cX5_sums 256 = .ok (.iload_n 2, 1) := by decide +kernel
theorem dX5_sums_257 : decode cX5_sums 257 = .ok (.iaload, 1) := by decide +kernel
theorem dX5_sums_258 : decode cX5_sums 258 = .ok (.iastore, 1) := by decide +kernel
theorem dX5_sums_259 : decode cX5_sums 259 = .ok (.aload_n 0, 1) := by decide +kernel
theorem dX5_sums_260 : decode cX5_sums 260 = .ok (.getfield 7, 3) := by decide +kernel
theorem dX5_sums_263 : decode cX5_sums 263 = .ok (.iload_n 1, 1) := by decide +kernel
theorem dX5_sums_264 : decode cX5_sums 264 = .ok (.iload_n 2, 1) := by decide +kernel
theorem dX5_sums_265 : decode cX5_sums 265 = .ok (.bipush 24, 2) := by decide +kernel
theorem dX5_sums_267 : decode cX5_sums 267 = .ok (.invokestatic 40, 3) := by decide +kernel
theorem dX5_sums_270 : decode cX5_sums 270 = .ok (.dup2, 1) := by decide +kernel
theorem dX5_sums_271 : decode cX5_sums 271 = .ok (.iaload, 1) := by decide +kernel
theorem dX5_sums_272 : decode cX5_sums 272 = .ok (.aload_n 0, 1) := by decide +kernel
theorem dX5_sums_273 : decode cX5_sums 273 = .ok (.getfield 7, 3) := by decide +kernel
theorem dX5_sums_276 : decode cX5_sums 276 = .ok (.iload_n 1, 1) := by decide +kernel
theorem dX5_sums_277 : decode cX5_sums 277 = .ok (.iload_n 2, 1) := by decide +kernel
theorem dX5_sums_278 : decode cX5_sums 278 = .ok (.bipush 24, 2) := by decide +kernel
theorem dX5_sums_280 : decode cX5_sums 280 = .ok (.invokestatic 40, 3) := by decide +kernel
theorem dX5_sums_283 : decode cX5_sums 283 = .ok (.iaload, 1) := by decide +kernel
theorem dX5_sums_284 : decode cX5_sums 284 = .ok (.bipush 6, 2) := by decide +kernel
theorem dX5_sums_286 : decode cX5_sums 286 = .ok (.if_icmp .ge 7, 3) := by decide +kernel
theorem dX5_sums_289 : decode cX5_sums 289 = .ok (.iconst 1, 1) := by decide +kernel
theorem dX5_sums_290 : decode cX5_sums 290 = .ok (.goto 4, 3) := by decide +kernel
theorem dX5_sums_293 : decode cX5_sums 293 = .ok (.iconst 0, 1) := by decide +kernel
theorem dX5_sums_294 : decode cX5_sums 294 = .ok (.iadd, 1) := by decide +kernel
theorem dX5_sums_295 : decode cX5_sums 295 = .ok (.iastore, 1) := by decide +kernel
theorem dX5_sums_296 : decode cX5_sums 296 = .ok (.iconst 0, 1) := by decide +kernel
theorem dX5_sums_297 : decode cX5_sums 297 = .ok (.istore 5, 2) := by decide +kernel
theorem dX5_sums_299 : decode cX5_sums 299 = .ok (.iload 5, 2) := by decide +kernel
theorem dX5_sums_301 : decode cX5_sums 301 = .ok (.aload_n 0, 1) := by decide +kernel
theorem dX5_sums_302 : decode cX5_sums 302 = .ok (.getfield 7, 3) := by decide +kernel
theorem dX5_sums_305 : decode cX5_sums 305 = .ok (.iload_n 1, 1) := by decide +kernel
theorem dX5_sums_306 : decode cX5_sums 306 = .ok (.iload_n 2, 1) := by decide +kernel
theorem dX5_sums_307 : decode cX5_sums 307 = .ok (.bipush 9, 2) := by decide +kernel
theorem dX5_sums_309 : decode cX5_sums 309 = .ok (.invokestatic 40, 3) := by decide +kernel
theorem dX5_sums_312 : decode cX5_sums 312 = .ok (.iaload, 1) := by decide +kernel
theorem dX5_sums_313 : decode cX5_sums 313 = .ok (.if_icmp .ge 84, 3) := by decide +kernel
theorem dX5_sums_316 : decode cX5_sums 316 = .ok (.bipush 17, 2) := by decide +kernel
theorem dX5_sums_318 : decode cX5_sums 318 = .ok (.istore 6, 2) := by decide +kernel
theorem dX5_sums_320 : decode cX5_sums 320 = .ok (.iload 6, 2) := by decide +kernel
theorem dX5_sums_322 : decode cX5_sums 322 = .ok (.ifCond .le 43, 3) := by decide +kernel
theorem dX5_sums_325 : decode cX5_sums 325 = .ok (.aload_n 0, 1) := by decide +kernel
theorem dX5_sums_326 : decode cX5_sums 326 = .ok (.getfield 7, 3) := by decide +kernel
theorem dX5_sums_329 : decode cX5_sums 329 = .ok (.iload_n 1, 1) := by decide +kernel
theorem dX5_sums_330 : decode cX5_sums 330 = .ok (.iload_n 2, 1) := by decide +kernel
theorem dX5_sums_331 : decode cX5_sums 331 = .ok (.iload 5, 2) := by decide +kernel
theorem dX5_sums_333 : decode cX5_sums 333 = .ok (.iconst 3, 1) := by decide +kernel
theorem dX5_sums_334 : decode cX5_sums 334 = .ok (.iload 6, 2) := by decide +kernel
theorem dX5_sums_336 : decode cX5_sums 336 = .ok (.iadd, 1) := by decide +kernel
theorem dX5_sums_337 : decode cX5_sums 337 = .ok (.invokestatic 63, 3) := by decide +kernel
theorem dX5_sums_340 : decode cX5_sums 340 = .ok (.aload_n 0, 1) := by decide +kernel
theorem dX5_sums_341 : decode cX5_sums 341 = .ok (.getfield 7, 3) := by decide +kernel
theorem dX5_sums_344 : decode cX5_sums 344 = .ok (.iload_n 1, 1) := by decide +kernel
theorem dX5_sums_345 : decode cX5_sums 345 = .ok (.iload_n 2, 1) := by decide +kernel
theorem dX5_sums_346 : decode cX5_sums 346 = .ok (.iload 5, 2) := by decide +kernel
theorem dX5_sums_348 : decode cX5_sums 348 = .ok (.iconst 3, 1) := by decide +kernel
theorem dX5_sums_349 : decode cX5_sums 349 = .ok (.iload 6, 2) := by decide +kernel
theorem dX5_sums_351 : decode cX5_sums 351 = .ok (.iadd, 1) := by decide +kernel
theorem dX5_sums_352 : decode cX5_sums 352 = .ok (.iconst 1, 1) := by decide +kernel
theorem dX5_sums_353 : decode cX5_sums 353 = .ok (.isub, 1) := by decide +kernel
theorem dX5_sums_354 : decode cX5_sums 354 = .ok (.invokestatic 63, 3) := by decide +kernel
theorem dX5_sums_357 : decode cX5_sums 357 = .ok (.iaload, 1) := by decide +kernel
theorem dX5_sums_358 : decode cX5_sums 358 = .ok (.iastore, 1) := by decide +kernel
theorem dX5_sums_359 : decode cX5_sums 359 = .ok (.iinc 6 (-1), 3) := by decide +kernel
theorem dX5_sums_362 : decode cX5_sums 362 = .ok (.goto (-42), 3) := by decide +kernel
theorem dX5_sums_365 : decode cX5_sums 365 = .ok (.aload_n 0, 1) := by decide +kernel
theorem dX5_sums_366 : decode cX5_sums 366 = .ok (.getfield 7, 3) := by decide +kernel
theorem dX5_sums_369 : decode cX5_sums 369 = .ok (.iload_n 1, 1) := by decide +kernel
theorem dX5_sums_370 : decode cX5_sums 370 = .ok (.iload_n 2, 1) := by decide +kernel
theorem dX5_sums_371 : decode cX5_sums 371 = .ok (.iload 5, 2) := by decide +kernel
theorem dX5_sums_373 : decode cX5_sums 373 = .ok (.iconst 3, 1) := by decide +kernel
theorem dX5_sums_374 : decode cX5_sums 374 = .ok (.invokestatic 63, 3) := by decide +kernel
theorem dX5_sums_377 : decode cX5_sums 377 = .ok (.aload_n 0, 1) := by decide +kernel
theorem dX5_sums_378 : decode cX5_sums 378 = .ok (.getfield 7, 3) := by decide +kernel
theorem dX5_sums_381 : decode cX5_sums 381 = .ok (.iload_n 1, 1) := by decide +kernel
theorem dX5_sums_382 : decode cX5_sums 382 = .ok (.iload_n 2, 1) := by decide +kernel
theorem dX5_sums_383 : decode cX5_sums 383 = .ok (.iload 5, 2) := by decide +kernel
theorem dX5_sums_385 : decode cX5_sums 385 = .ok (.iconst 2, 1) := by decide +kernel
theorem dX5_sums_386 : decode cX5_sums 386 = .ok (.invokestatic 63, 3) := by decide +kernel
theorem dX5_sums_389 : decode cX5_sums 389 = .ok (.iaload, 1) := by decide +kernel
theorem dX5_sums_390 : decode cX5_sums 390 = .ok (.iastore, 1) := by decide +kernel
theorem dX5_sums_391 : decode cX5_sums 391 = .ok (.iinc 5 1, 3) := by decide +kernel
theorem dX5_sums_394 : decode cX5_sums 394 = .ok (.goto (-95), 3) := by decide +kernel
theorem dX5_sums_397 : decode cX5_sums 397 = .ok (.iconst 0, 1) := by decide +kernel
theorem dX5_sums_398 : decode cX5_sums 398 = .ok (.istore 5, 2) := by decide +kernel
theorem dX5_sums_400 : decode cX5_sums 400 = .ok (.iload 5, 2) := by decide +kernel
theorem dX5_sums_402 : decode cX5_sums 402 = .ok (.bipush 6, 2) := by decide +kernel
theorem dX5_sums_404 : decode cX5_sums 404 = .ok (.if_icmp .ge 41, 3) := by decide +kernel
theorem dX5_sums_407 : decode cX5_sums 407 = .ok (.aload_n 0, 1) := by decide +kernel
theorem dX5_sums_408 : decode cX5_sums 408 = .ok (.getfield 7, 3) := by decide +kernel
theorem dX5_sums_411 : decode cX5_sums 411 = .ok (.iload_n 1, 1) := by decide +kernel
theorem dX5_sums_412 : decode cX5_sums 412 = .ok (.iload_n 2, 1) := by decide +kernel
theorem dX5_sums_413 : decode cX5_sums 413 = .ok (.bipush 11, 2) := by decide +kernel
theorem dX5_sums_415 : decode cX5_sums 415 = .ok (.iload 5, 2) := by decide +kernel
theorem dX5_sums_417 : decode cX5_sums 417 = .ok (.iadd, 1) := by decide +kernel
theorem dX5_sums_418 : decode cX5_sums 418 = .ok (.invokestatic 40, 3) := by decide +kernel
theorem dX5_sums_421 : decode cX5_sums 421 = .ok (.aload_n 0, 1) := by decide +kernel
theorem dX5_sums_422 : decode cX5_sums 422 = .ok (.getfield 7, 3) := by decide +kernel
theorem dX5_sums_425 : decode cX5_sums 425 = .ok (.iload_n 1, 1) := by decide +kernel
theorem dX5_sums_426 : decode cX5_sums 426 = .ok (.iload_n 2, 1) := by decide +kernel
theorem dX5_sums_427 : decode cX5_sums 427 = .ok (.bipush 11, 2) := by decide +kernel
theorem dX5_sums_429 : decode cX5_sums 429 = .ok (.iload 5, 2) := by decide +kernel
theorem dX5_sums_431 : decode cX5_sums 431 = .ok (.iadd, 1) := by decide +kernel
theorem dX5_sums_432 : decode cX5_sums 432 = .ok (.iconst 1, 1) := by decide +kernel
theorem dX5_sums_433 : decode cX5_sums 433 = .ok (.iadd, 1) := by decide +kernel
theorem dX5_sums_434 : decode cX5_sums 434 = .ok (.invokestatic 40, 3) := by decide +kernel
theorem dX5_sums_437 : decode cX5_sums 437 = .ok (.iaload, 1) := by decide +kernel
theorem dX5_sums_438 : decode cX5_sums 438 = .ok (.iastore, 1) := by decide +kernel
theorem dX5_sums_439 : decode cX5_sums 439 = .ok (.iinc 5 1, 3) := by decide +kernel
theorem dX5_sums_442 : decode cX5_sums 442 = .ok (.goto (-42), 3) := by decide +kernel
theorem dX5_sums_445 : decode cX5_sums 445 = .ok (.aload_n 0, 1) := by decide +kernel
theorem dX5_sums_446 : decode cX5_sums 446 = .ok (.getfield 7, 3) := by decide +kernel
theorem dX5_sums_449 : decode cX5_sums 449 = .ok (.iload_n 1, 1) := by decide +kernel
theorem dX5_sums_450 : decode cX5_sums 450 = .ok (.iload_n 2, 1) := by decide +kernel
theorem dX5_sums_451 : decode cX5_sums 451 = .ok (.bipush 17, 2) := by decide +kernel
theorem dX5_sums_453 : decode cX5_sums 453 = .ok (.invokestatic 40, 3) := by decide +kernel
theorem dX5_sums_456 : decode cX5_sums 456 = .ok (.iconst 0, 1) := by decide +kernel
theorem dX5_sums_457 : decode cX5_sums 457 = .ok (.iastore, 1) := by decide +kernel
theorem dX5_sums_458 : decode cX5_sums 458 = .ok (.return_, 1) := by decide +kernel
theorem dX5_does_0 : decode cX5_does 0 = .ok (.aload_n 0, 1) := by decide +kernel
theorem dX5_does_1 : decode cX5_does 1 = .ok (.iload_n 1, 1) := by decide +kernel
theorem dX5_does_2 : decode cX5_does 2 = .ok (.invokevirtual 105, 3) := by decide +kernel
theorem dX5_does_5 : decode cX5_does 5 = .ok (.iconst 0, 1) := by decide +kernel
theorem dX5_does_6 : decode cX5_does 6 = .ok (.istore_n 2, 1) := by decide +kernel
theorem dX5_does_7 : decode cX5_does 7 = .ok (.iload_n 2, 1) := by decide +kernel
theorem dX5_does_8 : decode cX5_does 8 = .ok (.aload_n 0, 1) := by decide +kernel
theorem dX5_does_9 : decode cX5_does 9 = .ok (.iload_n 1, 1) := by decide +kernel
theorem dX5_does_10 : decode cX5_does 10 = .ok (.bipush 7, 2) := by decide +kernel
theorem dX5_does_12 : decode cX5_does 12 = .ok (.invokevirtual 52, 3) := by decide +kernel
theorem dX5_does_15 : decode cX5_does 15 = .ok (.if_icmp .ge 15, 3) := by decide +kernel
theorem dX5_does_18 : decode cX5_does 18 = .ok (.aload_n 0, 1) := by decide +kernel
theorem dX5_does_19 : decode cX5_does 19 = .ok (.iload_n 1, 1) := by decide +kernel
theorem dX5_does_20 : decode cX5_does 20 = .ok (.iload_n 2, 1) := by decide +kernel
theorem dX5_does_21 : decode cX5_does 21 = .ok (.invokevirtual 109, 3) := by decide +kernel
theorem dX5_does_24 : decode cX5_does 24 = .ok (.iinc 2 1, 3) := by decide +kernel
theorem dX5_does_27 : decode cX5_does 27 = .ok (.goto (-20), 3) := by decide +kernel
theorem dX5_does_30 : decode cX5_does 30 = .ok (.iconst 0, 1) := by decide +kernel
theorem dX5_does_31 : decode cX5_does 31 = .ok (.istore_n 2, 1) := by decide +kernel
theorem dX5_does_32 : decode cX5_does 32 = .ok (.iload_n 2, 1) := by decide +kernel
theorem dX5_does_33 : decode cX5_does 33 = .ok (.aload_n 0, 1) := by decide +kernel
theorem dX5_does_34 : decode cX5_does 34 = .ok (.iload_n 1, 1) := by decide +kernel
theorem dX5_does_35 : decode cX5_does 35 = .ok (.bipush 7, 2) := by decide +kernel
theorem dX5_does_37 : decode cX5_does 37 = .ok (.invokevirtual 52, 3) := by decide +kernel
theorem dX5_does_40 : decode cX5_does 40 = .ok (.if_icmp .ge 15, 3) := by decide +kernel
theorem dX5_does_43 : decode cX5_does 43 = .ok (.aload_n 0, 1) := by decide +kernel
theorem dX5_does_44 : decode cX5_does 44 = .ok (.iload_n 1, 1) := by decide +kernel
theorem dX5_does_45 : decode cX5_does 45 = .ok (.iload_n 2, 1) := by decide +kernel
theorem dX5_does_46 : decode cX5_does 46 = .ok (.invokevirtual 112, 3) := by decide +kernel
theorem dX5_does_49 : decode cX5_does 49 = .ok (.iinc 2 1, 3) := by decide +kernel
theorem dX5_does_52 : decode cX5_does 52 = .ok (.goto (-20), 3) := by decide +kernel
theorem dX5_does_55 : decode cX5_does 55 = .ok (.aload_n 0, 1) := by decide +kernel
theorem dX5_does_56 : decode cX5_does 56 = .ok (.iload_n 1, 1) := by decide +kernel
theorem dX5_does_57 : decode cX5_does 57 = .ok (.invokevirtual 115, 3) := by decide +kernel
theorem dX5_does_60 : decode cX5_does 60 = .ok (.aload_n 0, 1) := by decide +kernel
theorem dX5_does_61 : decode cX5_does 61 = .ok (.iload_n 1, 1) := by decide +kernel
theorem dX5_does_62 : decode cX5_does 62 = .ok (.iconst 5, 1) := by decide +kernel
theorem dX5_does_63 : decode cX5_does 63 = .ok (.invokevirtual 52, 3) := by decide +kernel
theorem dX5_does_66 : decode cX5_does 66 = .ok (.aload_n 0, 1) := by decide +kernel
theorem dX5_does_67 : decode cX5_does 67 = .ok (.iload_n 1, 1) := by decide +kernel
theorem dX5_does_68 : decode cX5_does 68 = .ok (.iconst 3, 1) := by decide +kernel
theorem dX5_does_69 : decode cX5_does 69 = .ok (.invokevirtual 52, 3) := by decide +kernel
theorem dX5_does_72 : decode cX5_does 72 = .ok (.iadd, 1) := by decide +kernel
theorem dX5_does_73 : decode cX5_does 73 = .ok (.istore_n 2, 1) := by decide +kernel
theorem dX5_does_74 : decode cX5_does 74 = .ok (.aload_n 0, 1) := by decide +kernel
theorem dX5_does_75 : decode cX5_does 75 = .ok (.iload_n 1, 1) := by decide +kernel
theorem dX5_does_76 : decode cX5_does 76 = .ok (.iconst 5, 1) := by decide +kernel
theorem dX5_does_77 : decode cX5_does 77 = .ok (.iload_n 2, 1) := by decide +kernel
theorem dX5_does_78 : decode cX5_does 78 = .ok (.aload_n 0, 1) := by decide +kernel
theorem dX5_does_79 : decode cX5_does 79 = .ok (.iload_n 1, 1) := by decide +kernel
theorem dX5_does_80 : decode cX5_does 80 = .ok (.iconst 2, 1) := by decide +kernel
theorem dX5_does_81 : decode cX5_does 81 = .ok (.invokevirtual 52, 3) := by decide +kernel
theorem dX5_does_84 : decode cX5_does 84 = .ok (.if_icmp .le 12, 3) := by decide +kernel
theorem dX5_does_87 : decode cX5_does 87 = .ok (.aload_n 0, 1) := by decide +kernel
theorem dX5_does_88 : decode cX5_does 88 = .ok (.iload_n 1, 1) := by decide +kernel
theorem dX5_does_89 : decode cX5_does 89 = .ok (.iconst 2, 1) := by decide +kernel
theorem dX5_does_90 : decode cX5_does 90 = .ok (.invokevirtual 52, 3) := by decide +kernel
theorem dX5_does_93 : decode cX5_does 93 = .ok (.goto 4, 3) := by decide +kernel
theorem dX5_does_96 : decode cX5_does 96 = .ok (.iload_n 2, 1) := by decide +kernel
theorem dX5_does_97 : decode cX5_does 97 = .ok (.invokevirtual 97, 3) := by decide +kernel
theorem dX5_does_100 : decode cX5_does 100 = .ok (.iconst 0, 1) := by decide +kernel
theorem dX5_does_101 : decode cX5_does 101 = .ok (.istore_n 3, 1) := by decide +kernel
theorem dX5_does_102 : decode cX5_does 102 = .ok (.iload_n 3, 1) := by decide +kernel
theorem dX5_does_103 : decode cX5_does 103 = .ok (.aload_n 0, 1) := by decide +kernel
theorem dX5_does_104 : decode cX5_does 104 = .ok (.iload_n 1, 1) := by decide +kernel
theorem dX5_does_105 : decode cX5_does 105 = .ok (.bipush 7, 2) := by decide +kernel
theorem dX5_does_107 : decode cX5_does 107 = .ok (.invokevirtual 52, 3) := by decide +kernel
theorem dX5_does_110 : decode cX5_does 110 = .ok (.if_icmp .ge 27, 3) := by decide +kernel
theorem dX5_does_113 : decode cX5_does 113 = .ok (.aload_n 0, 1) := by decide +kernel
theorem dX5_does_114 : decode cX5_does 114 = .ok (.getfield 25, 3) := by decide +kernel
theorem dX5_does_117 : decode cX5_does 117 = .ok (.iload_n 3, 1) := by decide +kernel
theorem dX5_does_118 : decode cX5_does 118 = .ok (.aload_n 0, 1) := by decide +kernel
theorem dX5_does_119 : decode cX5_does 119 = .ok (.iload_n 1, 1) := by decide +kernel
theorem dX5_does_120 : decode cX5_does 120 = .ok (.iload_n 3, 1) := by decide +kernel
theorem dX5_does_121 : decode cX5_does 121 = .ok (.invokevirtual 56, 3) := by decide +kernel
theorem dX5_does_124 : decode cX5_does 124 = .ok (.iastore, 1) := by decide +kernel
theorem dX5_does_125 : decode cX5_does 125 = .ok (.aload_n 0, 1) := by decide +kernel
theorem dX5_does_126 : decode cX5_does 126 = .ok (.iload_n 1, 1) := by decide +kernel
theorem dX5_does_127 : decode cX5_does 127 = .ok (.iload_n 3, 1) := by decide +kernel
theorem dX5_does_128 : decode cX5_does 128 = .ok (.invokevirtual 118, 3) := by decide +kernel
theorem dX5_does_131 : decode cX5_does 131 = .ok (.iinc 3 1, 3) := by decide +kernel
theorem dX5_does_134 : decode cX5_does 134 = .ok (.goto (-32), 3) := by decide +kernel
theorem dX5_does_137 : decode cX5_does 137 = .ok (.aload_n 0, 1) := by decide +kernel
theorem dX5_does_138 : decode cX5_does 138 = .ok (.iload_n 1, 1) := by decide +kernel
theorem dX5_does_139 : decode cX5_does 139 = .ok (.bipush 6, 2) := by decide +kernel
theorem dX5_does_141 : decode cX5_does 141 = .ok (.aload_n 0, 1) := by decide +kernel
theorem dX5_does_142 : decode cX5_does 142 = .ok (.iload_n 1, 1) := by decide +kernel
theorem dX5_does_143 : decode cX5_does 143 = .ok (.bipush 6, 2) := by decide +kernel
theorem dX5_does_145 : decode cX5_does 145 = .ok (.invokevirtual 52, 3) := by decide +kernel
theorem dX5_does_148 : decode cX5_does 148 = .ok (.iconst 1, 1) := by decide +kernel
theorem dX5_does_149 : decode cX5_does 149 = .ok (.iadd, 1) := by decide +kernel
theorem dX5_does_150 : decode cX5_does 150 = .ok (.invokevirtual 97, 3) := by decide +kernel
theorem dX5_does_153 : decode cX5_does 153 = .ok (.return_, 1) := by decide +kernel
theorem dX5_write_0 : decode cX5_write 0 = .ok (.iload_n 1, 1) := by decide +kernel
theorem dX5_write_1 : decode cX5_write 1 = .ok (.i2l, 1) := by decide +kernel
theorem dX5_write_2 : decode cX5_write 2 = .ok (.lconst 0, 1) := by decide +kernel
theorem dX5_write_3 : decode cX5_write 3 = .ok (.ldc2_w 121, 3) := by decide +kernel
theorem dX5_write_6 : decode cX5_write 6 = .ok (.invokestatic 44, 3) := by decide +kernel
theorem dX5_write_9 : decode cX5_write 9 = .ok (.ifCond .ne 6, 3) := by decide +kernel
theorem dX5_write_12 : decode cX5_write 12 = .ok (.ldc 123, 2) := by decide +kernel
theorem dX5_write_14 : decode cX5_write 14 = .ok (.ireturn, 1) := by decide +kernel
theorem dX5_write_15 : decode cX5_write 15 = .ok (.aload_n 0, 1) := by decide +kernel
theorem dX5_write_16 : decode cX5_write 16 = .ok (.getfield 124, 3) := by decide +kernel
theorem dX5_write_19 : decode cX5_write 19 = .ok (.sipush 160, 3) := by decide +kernel
theorem dX5_write_22 : decode cX5_write 22 = .ok (.if_icmp .ne 6, 3) := by decide +kernel
theorem dX5_write_25 : decode cX5_write 25 = .ok (.ldc 128, 2) := by decide +kernel
theorem dX5_write_27 : decode cX5_write 27 = .ok (.ireturn, 1) := by decide +kernel
theorem dX5_write_28 : decode cX5_write 28 = .ok (.aload_n 0, 1) := by decide +kernel
theorem dX5_write_29 : decode cX5_write 29 = .ok (.getfield 37, 3) := by decide +kernel
theorem dX5_write_32 : decode cX5_write 32 = .ok (.aload_n 0, 1) := by decide +kernel
theorem dX5_write_33 : decode cX5_write 33 = .ok (.getfield 124, 3) := by decide +kernel
theorem dX5_write_36 : decode cX5_write 36 = .ok (.iload_n 1, 1) := by decide +kernel
theorem dX5_write_37 : decode cX5_write 37 = .ok (.iastore, 1) := by decide +kernel
theorem dX5_write_38 : decode cX5_write 38 = .ok (.aload_n 0, 1) := by decide +kernel
theorem dX5_write_39 : decode cX5_write 39 = .ok (.dup, 1) := by decide +kernel
theorem dX5_write_40 : decode cX5_write 40 = .ok (.getfield 124, 3) := by decide +kernel
theorem dX5_write_43 : decode cX5_write 43 = .ok (.iconst 1, 1) := by decide +kernel
theorem dX5_write_44 : decode cX5_write 44 = .ok (.iadd, 1) := by decide +kernel
theorem dX5_write_45 : decode cX5_write 45 = .ok (.putfield 124, 3) := by decide +kernel
theorem dX5_write_48 : decode cX5_write 48 = .ok (.aload_n 0, 1) := by decide +kernel
theorem dX5_write_49 : decode cX5_write 49 = .ok (.getfield 124, 3) := by decide +kernel
theorem dX5_write_52 : decode cX5_write 52 = .ok (.ireturn, 1) := by decide +kernel
theorem dX5_reads_0 : decode cX5_reads 0 = .ok (.aload_n 0, 1) := by decide +kernel
theorem dX5_reads_1 : decode cX5_reads 1 = .ok (.getfield 129, 3) := by decide +kernel
theorem dX5_reads_4 : decode cX5_reads 4 = .ok (.aload_n 0, 1) := by decide +kernel
theorem dX5_reads_5 : decode cX5_reads 5 = .ok (.getfield 124, 3) := by decide +kernel
theorem dX5_reads_8 : decode cX5_reads 8 = .ok (.if_icmp .ge 30, 3) := by decide +kernel
theorem dX5_reads_11 : decode cX5_reads 11 = .ok (.aload_n 0, 1) := by decide +kernel
theorem dX5_reads_12 : decode cX5_reads 12 = .ok (.getfield 37, 3) := by decide +kernel
theorem dX5_reads_15 : decode cX5_reads 15 = .ok (.aload_n 0, 1) := by decide +kernel
theorem dX5_reads_16 : decode cX5_reads 16 = .ok (.getfield 129, 3) := by decide +kernel
theorem dX5_reads_19 : decode cX5_reads 19 = .ok (.iaload, 1) := by decide +kernel
theorem dX5_reads_20 : decode cX5_reads 20 = .ok (.bipush 32, 2) := by decide +kernel
theorem dX5_reads_22 : decode cX5_reads 22 = .ok (.if_icmp .ne 16, 3) := by decide +kernel
theorem dX5_reads_25 : decode cX5_reads 25 = .ok (.aload_n 0, 1) := by decide +kernel
theorem dX5_reads_26 : decode cX5_reads 26 = .ok (.dup, 1) := by decide +kernel
theorem dX5_reads_27 : decode cX5_reads 27 = .ok (.getfield 129, 3) := by decide +kernel
theorem dX5_reads_30 : decode cX5_reads 30 = .ok (.iconst 1, 1) := by decide +kernel
theorem dX5_reads_31 : decode cX5_reads 31 = .ok (.iadd, 1) := by decide +kernel
theorem dX5_reads_32 : decode cX5_reads 32 = .ok (.putfield 129, 3) := by decide +kernel
theorem dX5_reads_35 : decode cX5_reads 35 = .ok (.goto (-35), 3) := by decide +kernel
theorem dX5_reads_38 : decode cX5_reads 38 = .ok (.aload_n 0, 1) := by decide +kernel
theorem dX5_reads_39 : decode cX5_reads 39 = .ok (.aload_n 0, 1) := by decide +kernel
theorem dX5_reads_40 : decode cX5_reads 40 = .ok (.getfield 129, 3) := by decide +kernel
theorem dX5_reads_43 : decode cX5_reads 43 = .ok (.putfield 131, 3) := by decide +kernel
theorem dX5_reads_46 : decode cX5_reads 46 = .ok (.aload_n 0, 1) := by decide +kernel
theorem dX5_reads_47 : decode cX5_reads 47 = .ok (.iconst 0, 1) := by decide +kernel
theorem dX5_reads_48 : decode cX5_reads 48 = .ok (.putfield 134, 3) := by decide +kernel
theorem dX5_reads_51 : decode cX5_reads 51 = .ok (.aload_n 0, 1) := by decide +kernel
theorem dX5_reads_52 : decode cX5_reads 52 = .ok (.iconst 0, 1) := by decide +kernel
theorem dX5_reads_53 : decode cX5_reads 53 = .ok (.putfield 137, 3) := by decide +kernel
theorem dX5_reads_56 : decode cX5_reads 56 = .ok (.aload_n 0, 1) := by decide +kernel
theorem dX5_reads_57 : decode cX5_reads 57 = .ok (.aload_n 0, 1) := by decide +kernel
theorem dX5_reads_58 : decode cX5_reads 58 = .ok (.getfield 129, 3) := by decide +kernel
theorem dX5_reads_61 : decode cX5_reads 61 = .ok (.aload_n 0, 1) := by decide +kernel
theorem dX5_reads_62 : decode cX5_reads 62 = .ok (.getfield 124, 3) := by decide +kernel
theorem dX5_reads_65 : decode cX5_reads 65 = .ok (.if_icmp .ne 7, 3) := by decide +kernel
theorem dX5_reads_68 : decode cX5_reads 68 = .ok (.iconst (-1), 1) := by decide +kernel
theorem dX5_reads_69 : decode cX5_reads 69 = .ok (.goto 16, 3) := by decide +kernel
theorem dX5_reads_72 : decode cX5_reads 72 = .ok (.sipush 256, 3) := by decide +kernel
theorem dX5_reads_75 : decode cX5_reads 75 = .ok (.aload_n 0, 1) := by decide +kernel
theorem dX5_reads_76 : decode cX5_reads 76 = .ok (.getfield 37, 3) := by decide +kernel
theorem dX5_reads_79 : decode cX5_reads 79 = .ok (.aload_n 0, 1) := by decide +kernel
theorem dX5_reads_80 : decode cX5_reads 80 = .ok (.getfield 129, 3) := by decide +kernel
theorem dX5_reads_83 : decode cX5_reads 83 = .ok (.iaload, 1) := by decide +kernel
theorem dX5_reads_84 : decode cX5_reads 84 = .ok (.iadd, 1) := by decide +kernel
theorem dX5_reads_85 : decode cX5_reads 85 = .ok (.putfield 140, 3) := by decide +kernel
theorem dX5_reads_88 : decode cX5_reads 88 = .ok (.aload_n 0, 1) := by decide +kernel
theorem dX5_reads_89 : decode cX5_reads 89 = .ok (.getfield 129, 3) := by decide +kernel
theorem dX5_reads_92 : decode cX5_reads 92 = .ok (.aload_n 0, 1) := by decide +kernel
theorem dX5_reads_93 : decode cX5_reads 93 = .ok (.getfield 124, 3) := by decide +kernel
theorem dX5_reads_96 : decode cX5_reads 96 = .ok (.if_icmp .ge 92, 3) := by decide +kernel
theorem dX5_reads_99 : decode cX5_reads 99 = .ok (.aload_n 0, 1) := by decide +kernel
theorem dX5_reads_100 : decode cX5_reads 100 = .ok (.getfield 37, 3) := by decide +kernel
theorem dX5_reads_103 : decode cX5_reads 103 = .ok (.aload_n 0, 1) := by decide +kernel
theorem dX5_reads_104 : decode cX5_reads 104 = .ok (.getfield 129, 3) := by decide +kernel
theorem dX5_reads_107 : decode cX5_reads 107 = .ok (.iaload, 1) := by decide +kernel
theorem dX5_reads_108 : decode cX5_reads 108 = .ok (.i2l, 1) := by decide +kernel
theorem dX5_reads_109 : decode cX5_reads 109 = .ok (.ldc2_w 143, 3) := by decide +kernel
theorem dX5_reads_112 : decode cX5_reads 112 = .ok (.ldc2_w 145, 3) := by decide +kernel
theorem dX5_reads_115 : decode cX5_reads 115 = .ok (.invokestatic 44, 3) := by decide +kernel
theorem dX5_reads_118 : decode cX5_reads 118 = .ok (.ifCond .eq 70, 3) := by decide +kernel
theorem dX5_reads_121 : decode cX5_reads 121 = .ok (.aload_n 0, 1) := by decide +kernel
theorem dX5_reads_122 : decode cX5_reads 122 = .ok (.aload_n 0, 1) := by decide +kernel
theorem dX5_reads_123 : decode cX5_reads 123 = .ok (.getfield 134, 3) := by decide +kernel
theorem dX5_reads_126 : decode cX5_reads 126 = .ok (.iconst 2, 1) := by decide +kernel
theorem dX5_reads_127 : decode cX5_reads 127 = .ok (.if_icmp .ge 26, 3) := by decide +kernel
theorem dX5_reads_130 : decode cX5_reads 130 = .ok (.bipush 10, 2) := by decide +kernel
theorem dX5_reads_132 : decode cX5_reads 132 = .ok (.aload_n 0, 1) := by decide +kernel
theorem dX5_reads_133 : decode cX5_reads 133 = .ok (.getfield 137, 3) := by decide +kernel
theorem dX5_reads_136 : decode cX5_reads 136 = .ok (.imul, 1) := by decide +kernel
theorem dX5_reads_137 : decode cX5_reads 137 = .ok (.aload_n 0, 1) := by decide +kernel
theorem dX5_reads_138 : decode cX5_reads 138 = .ok (.getfield 37, 3) := by decide +kernel
theorem dX5_reads_141 : decode cX5_reads 141 = .ok (.aload_n 0, 1) := by decide +kernel
theorem dX5_reads_142 : decode cX5_reads 142 = .ok (.getfield 129, 3) := by decide +kernel
theorem dX5_reads_145 : decode cX5_reads 145 = .ok (.iaload, 1) := by decide +kernel
theorem dX5_reads_146 : decode cX5_reads 146 = .ok (.iadd, 1) := by decide +kernel
theorem dX5_reads_147 : decode cX5_reads 147 = .ok (.bipush 48, 2) := by decide +kernel
theorem dX5_reads_149 : decode cX5_reads 149 = .ok (.isub, 1) := by decide +kernel
theorem dX5_reads_150 : decode cX5_reads 150 = .ok (.goto 7, 3) := by decide +kernel
theorem dX5_reads_153 : decode cX5_reads 153 = .ok (.aload_n 0, 1) := by decide +kernel
theorem dX5_reads_154 : decode cX5_reads 154 = .ok (.getfield 137, 3) := by decide +kernel
theorem dX5_reads_157 : decode cX5_reads 157 = .ok (.putfield 137, 3) := by decide +kernel
theorem dX5_reads_160 : decode cX5_reads 160 = .ok (.aload_n 0, 1) := by decide +kernel
theorem dX5_reads_161 : decode cX5_reads 161 = .ok (.dup, 1) := by decide +kernel
theorem dX5_reads_162 : decode cX5_reads 162 = .ok (.getfield 134, 3) := by decide +kernel
theorem dX5_reads_165 : decode cX5_reads 165 = .ok (.iconst 1, 1) := by decide +kernel
theorem dX5_reads_166 : decode cX5_reads 166 = .ok (.iadd, 1) := by decide +kernel
theorem dX5_reads_167 : decode cX5_reads 167 = .ok (.putfield 134, 3) := by decide +kernel
theorem dX5_reads_170 : decode cX5_reads 170 = .ok (.aload_n 0, 1) := by decide +kernel
theorem dX5_reads_171 : decode cX5_reads 171 = .ok (.dup, 1) := by decide +kernel
theorem dX5_reads_172 : decode cX5_reads 172 = .ok (.getfield 129, 3) := by decide +kernel
theorem dX5_reads_175 : decode cX5_reads 175 = .ok (.iconst 1, 1) := by decide +kernel
theorem dX5_reads_176 : decode cX5_reads 176 = .ok (.iadd, 1) := by decide +kernel
theorem dX5_reads_177 : decode cX5_reads 177 = .ok (.putfield 129, 3) := by decide +kernel
theorem dX5_reads_180 : decode cX5_reads 180 = .ok (.aload_n 0, 1) := by decide +kernel
theorem dX5_reads_181 : decode cX5_reads 181 = .ok (.iconst 0, 1) := by decide +kernel
theorem dX5_reads_182 : decode cX5_reads 182 = .ok (.putfield 140, 3) := by decide +kernel
theorem dX5_reads_185 : decode cX5_reads 185 = .ok (.goto (-97), 3) := by decide +kernel
theorem dX5_reads_188 : decode cX5_reads 188 = .ok (.aload_n 0, 1) := by decide +kernel
theorem dX5_reads_189 : decode cX5_reads 189 = .ok (.dup, 1) := by decide +kernel
theorem dX5_reads_190 : decode cX5_reads 190 = .ok (.getfield 129, 3) := by decide +kernel
theorem dX5_reads_193 : decode cX5_reads 193 = .ok (.aload_n 0, 1) := by decide +kernel
theorem dX5_reads_194 : decode cX5_reads 194 = .ok (.getfield 140, 3) := by decide +kernel
theorem dX5_reads_197 : decode cX5_reads 197 = .ok (.ifCond .le 7, 3) := by decide +kernel
theorem dX5_reads_200 : decode cX5_reads 200 = .ok (.iconst 1, 1) := by decide +kernel
theorem dX5_reads_201 : decode cX5_reads 201 = .ok (.goto 4, 3) := by decide +kernel
theorem dX5_reads_204 : decode cX5_reads 204 = .ok (.iconst 0, 1) := by decide +kernel
theorem dX5_reads_205 : decode cX5_reads 205 = .ok (.iadd, 1) := by decide +kernel
theorem dX5_reads_206 : decode cX5_reads 206 = .ok (.putfield 129, 3) := by decide +kernel
theorem dX5_reads_209 : decode cX5_reads 209 = .ok (.return_, 1) := by decide +kernel
theorem dX5_wrong_0 : decode cX5_wrong 0 = .ok (.aload_n 0, 1) := by decide +kernel
theorem dX5_wrong_1 : decode cX5_wrong 1 = .ok (.aload_n 0, 1) := by decide +kernel
theorem dX5_wrong_2 : decode cX5_wrong 2 = .ok (.getfield 147, 3) := by decide +kernel
theorem dX5_wrong_5 : decode cX5_wrong 5 = .ok (.ifCond .ne 7, 3) := by decide +kernel
theorem dX5_wrong_8 : decode cX5_wrong 8 = .ok (.iload_n 1, 1) := by decide +kernel
theorem dX5_wrong_9 : decode cX5_wrong 9 = .ok (.goto 7, 3) := by decide +kernel
theorem dX5_wrong_12 : decode cX5_wrong 12 = .ok (.aload_n 0, 1) := by decide +kernel
theorem dX5_wrong_13 : decode cX5_wrong 13 = .ok (.getfield 147, 3) := by decide +kernel
theorem dX5_wrong_16 : decode cX5_wrong 16 = .ok (.putfield 147, 3) := by decide +kernel
theorem dX5_wrong_19 : decode cX5_wrong 19 = .ok (.return_, 1) := by decide +kernel
theorem dX5_isSign_0 : decode cX5_isSign 0 = .ok (.aload_n 0, 1) := by decide +kernel
theorem dX5_isSign_1 : decode cX5_isSign 1 = .ok (.getfield 147, 3) := by decide +kernel
theorem dX5_isSign_4 : decode cX5_isSign 4 = .ok (.ifCond .ne 19, 3) := by decide +kernel
theorem dX5_isSign_7 : decode cX5_isSign 7 = .ok (.aload_n 0, 1) := by decide +kernel
theorem dX5_isSign_8 : decode cX5_isSign 8 = .ok (.getfield 140, 3) := by decide +kernel
theorem dX5_isSign_11 : decode cX5_isSign 11 = .ok (.sipush 256, 3) := by decide +kernel
theorem dX5_isSign_14 : decode cX5_isSign 14 = .ok (.iload_n 1, 1) := by decide +kernel
theorem dX5_isSign_15 : decode cX5_isSign 15 = .ok (.iadd, 1) := by decide +kernel
theorem dX5_isSign_16 : decode cX5_isSign 16 = .ok (.if_icmp .ne 7, 3) := by decide +kernel
theorem dX5_isSign_19 : decode cX5_isSign 19 = .ok (.iconst 1, 1) := by decide +kernel
theorem dX5_isSign_20 : decode cX5_isSign 20 = .ok (.goto 4, 3) := by decide +kernel
theorem dX5_isSign_23 : decode cX5_isSign 23 = .ok (.iconst 0, 1) := by decide +kernel
theorem dX5_isSign_24 : decode cX5_isSign 24 = .ok (.ireturn, 1) := by decide +kernel
theorem dX5_sign_0 : decode cX5_sign 0 = .ok (.aload_n 0, 1) := by decide +kernel
theorem dX5_sign_1 : decode cX5_sign 1 = .ok (.iload_n 1, 1) := by decide +kernel
theorem dX5_sign_2 : decode cX5_sign 2 = .ok (.invokevirtual 150, 3) := by decide +kernel
theorem dX5_sign_5 : decode cX5_sign 5 = .ok (.ifCond .ne 8, 3) := by decide +kernel
theorem dX5_sign_8 : decode cX5_sign 8 = .ok (.aload_n 0, 1) := by decide +kernel
theorem dX5_sign_9 : decode cX5_sign 9 = .ok (.iconst 1, 1) := by decide +kernel
theorem dX5_sign_10 : decode cX5_sign 10 = .ok (.invokevirtual 153, 3) := by decide +kernel
theorem dX5_sign_13 : decode cX5_sign 13 = .ok (.aload_n 0, 1) := by decide +kernel
theorem dX5_sign_14 : decode cX5_sign 14 = .ok (.getfield 147, 3) := by decide +kernel
theorem dX5_sign_17 : decode cX5_sign 17 = .ok (.ifCond .ne 7, 3) := by decide +kernel
theorem dX5_sign_20 : decode cX5_sign 20 = .ok (.aload_n 0, 1) := by decide +kernel
theorem dX5_sign_21 : decode cX5_sign 21 = .ok (.invokevirtual 156, 3) := by decide +kernel
theorem dX5_sign_24 : decode cX5_sign 24 = .ok (.return_, 1) := by decide +kernel
theorem dX5_number_0 : decode cX5_number 0 = .ok (.aload_n 0, 1) := by decide +kernel
theorem dX5_number_1 : decode cX5_number 1 = .ok (.getfield 140, 3) := by decide +kernel
theorem dX5_number_4 : decode cX5_number 4 = .ok (.ifCond .eq 8, 3) := by decide +kernel
theorem dX5_number_7 : decode cX5_number 7 = .ok (.aload_n 0, 1) := by decide +kernel
theorem dX5_number_8 : decode cX5_number 8 = .ok (.iconst 1, 1) := by decide +kernel
theorem dX5_number_9 : decode cX5_number 9 = .ok (.invokevirtual 153, 3) := by decide +kernel
theorem dX5_number_12 : decode cX5_number 12 = .ok (.aload_n 0, 1) := by decide +kernel
theorem dX5_number_13 : decode cX5_number 13 = .ok (.getfield 134, 3) := by decide +kernel
theorem dX5_number_16 : decode cX5_number 16 = .ok (.iconst 2, 1) := by decide +kernel
theorem dX5_number_17 : decode cX5_number 17 = .ok (.if_icmp .gt 18, 3) := by decide +kernel
theorem dX5_number_20 : decode cX5_number 20 = .ok (.aload_n 0, 1) := by decide +kernel
theorem dX5_number_21 : decode cX5_number 21 = .ok (.getfield 137, 3) := by decide +kernel
theorem dX5_number_24 : decode cX5_number 24 = .ok (.i2l, 1) := by decide +kernel
theorem dX5_number_25 : decode cX5_number 25 = .ok (.iload_n 2, 1) := by decide +kernel
theorem dX5_number_26 : decode cX5_number 26 = .ok (.i2l, 1) := by decide +kernel
theorem dX5_number_27 : decode cX5_number 27 = .ok (.iload_n 3, 1) := by decide +kernel
theorem dX5_number_28 : decode cX5_number 28 = .ok (.i2l, 1) := by decide +kernel
theorem dX5_number_29 : decode cX5_number 29 = .ok (.invokestatic 44, 3) := by decide +kernel
theorem dX5_number_32 : decode cX5_number 32 = .ok (.ifCond .ne 8, 3) := by decide +kernel
theorem dX5_number_35 : decode cX5_number 35 = .ok (.aload_n 0, 1) := by decide +kernel
theorem dX5_number_36 : decode cX5_number 36 = .ok (.iconst 2, 1) := by decide +kernel
theorem dX5_number_37 : decode cX5_number 37 = .ok (.invokevirtual 153, 3) := by decide +kernel
theorem dX5_number_40 : decode cX5_number 40 = .ok (.aload_n 0, 1) := by decide +kernel
theorem dX5_number_41 : decode cX5_number 41 = .ok (.getfield 147, 3) := by decide +kernel
theorem dX5_number_44 : decode cX5_number 44 = .ok (.ifCond .ne 13, 3) := by decide +kernel
theorem dX5_number_47 : decode cX5_number 47 = .ok (.aload_n 0, 1) := by decide +kernel
theorem dX5_number_48 : decode cX5_number 48 = .ok (.getfield 7, 3) := by decide +kernel
theorem dX5_number_51 : decode cX5_number 51 = .ok (.iload_n 1, 1) := by decide +kernel
theorem dX5_number_52 : decode cX5_number 52 = .ok (.aload_n 0, 1) := by decide +kernel
theorem dX5_number_53 : decode cX5_number 53 = .ok (.getfield 137, 3) := by decide +kernel
theorem dX5_number_56 : decode cX5_number 56 = .ok (.iastore, 1) := by decide +kernel
theorem dX5_number_57 : decode cX5_number 57 = .ok (.return_, 1) := by decide +kernel
theorem dX5_goesOn_0 : decode cX5_goesOn 0 = .ok (.aload_n 0, 1) := by decide +kernel
theorem dX5_goesOn_1 : decode cX5_goesOn 1 = .ok (.getfield 147, 3) := by decide +kernel
theorem dX5_goesOn_4 : decode cX5_goesOn 4 = .ok (.ifCond .ne 7, 3) := by decide +kernel
theorem dX5_goesOn_7 : decode cX5_goesOn 7 = .ok (.aload_n 0, 1) := by decide +kernel
theorem dX5_goesOn_8 : decode cX5_goesOn 8 = .ok (.invokevirtual 156, 3) := by decide +kernel
theorem dX5_goesOn_11 : decode cX5_goesOn 11 = .ok (.aload_n 0, 1) := by decide +kernel
theorem dX5_goesOn_12 : decode cX5_goesOn 12 = .ok (.iload_n 1, 1) := by decide +kernel
theorem dX5_goesOn_13 : decode cX5_goesOn 13 = .ok (.invokevirtual 159, 3) := by decide +kernel
theorem dX5_goesOn_16 : decode cX5_goesOn 16 = .ok (.return_, 1) := by decide +kernel
theorem dX5_leasts_0 : decode cX5_leasts 0 = .ok (.iconst 0, 1) := by decide +kernel
theorem dX5_leasts_1 : decode cX5_leasts 1 = .ok (.istore_n 2, 1) := by decide +kernel
theorem dX5_leasts_2 : decode cX5_leasts 2 = .ok (.iconst 0, 1) := by decide +kernel
theorem dX5_leasts_3 : decode cX5_leasts 3 = .ok (.istore_n 3, 1) := by decide +kernel
theorem dX5_leasts_4 : decode cX5_leasts 4 = .ok (.iload_n 3, 1) := by decide +kernel
theorem dX5_leasts_5 : decode cX5_leasts 5 = .ok (.aload_n 0, 1) := by decide +kernel
theorem dX5_leasts_6 : decode cX5_leasts 6 = .ok (.iload_n 1, 1) := by decide +kernel
theorem dX5_leasts_7 : decode cX5_leasts 7 = .ok (.bipush 7, 2) := by decide +kernel
theorem dX5_leasts_9 : decode cX5_leasts 9 = .ok (.invokevirtual 52, 3) := by decide +kernel
theorem dX5_leasts_12 : decode cX5_leasts 12 = .ok (.if_icmp .ge 23, 3) := by decide +kernel
theorem dX5_leasts_15 : decode cX5_leasts 15 = .ok (.iload_n 2, 1) := by decide +kernel
theorem dX5_leasts_16 : decode cX5_leasts 16 = .ok (.aload_n 0, 1) := by decide +kernel
theorem dX5_leasts_17 : decode cX5_leasts 17 = .ok (.getfield 7, 3) := by decide +kernel
theorem dX5_leasts_20 : decode cX5_leasts 20 = .ok (.iload_n 1, 1) := by decide +kernel
theorem dX5_leasts_21 : decode cX5_leasts 21 = .ok (.iload_n 3, 1) := by decide +kernel
theorem dX5_leasts_22 : decode cX5_leasts 22 = .ok (.iconst 0, 1) := by decide +kernel
theorem dX5_leasts_23 : decode cX5_leasts 23 = .ok (.invokestatic 40, 3) := by decide +kernel
theorem dX5_leasts_26 : decode cX5_leasts 26 = .ok (.iaload, 1) := by decide +kernel
theorem dX5_leasts_27 : decode cX5_leasts 27 = .ok (.iadd, 1) := by decide +kernel
theorem dX5_leasts_28 : decode cX5_leasts 28 = .ok (.istore_n 2, 1) := by decide +kernel
theorem dX5_leasts_29 : decode cX5_leasts 29 = .ok (.iinc 3 1, 3) := by decide +kernel
theorem dX5_leasts_32 : decode cX5_leasts 32 = .ok (.goto (-28), 3) := by decide +kernel
theorem dX5_leasts_35 : decode cX5_leasts 35 = .ok (.iload_n 2, 1) := by decide +kernel
theorem dX5_leasts_36 : decode cX5_leasts 36 = .ok (.ireturn, 1) := by decide +kernel
theorem dX5_lowOf_0 : decode cX5_lowOf 0 = .ok (.iload_n 0, 1) := by decide +kernel
theorem dX5_lowOf_1 : decode cX5_lowOf 1 = .ok (.iconst 1, 1) := by decide +kernel
theorem dX5_lowOf_2 : decode cX5_lowOf 2 = .ok (.if_icmp .eq 19, 3) := by decide +kernel
theorem dX5_lowOf_5 : decode cX5_lowOf 5 = .ok (.iload_n 0, 1) := by decide +kernel
theorem dX5_lowOf_6 : decode cX5_lowOf 6 = .ok (.iconst 3, 1) := by decide +kernel
theorem dX5_lowOf_7 : decode cX5_lowOf 7 = .ok (.if_icmp .eq 14, 3) := by decide +kernel
theorem dX5_lowOf_10 : decode cX5_lowOf 10 = .ok (.iload_n 0, 1) := by decide +kernel
theorem dX5_lowOf_11 : decode cX5_lowOf 11 = .ok (.iconst 4, 1) := by decide +kernel
theorem dX5_lowOf_12 : decode cX5_lowOf 12 = .ok (.if_icmp .eq 9, 3) := by decide +kernel
theorem dX5_lowOf_15 : decode cX5_lowOf 15 = .ok (.iload_n 0, 1) := by decide +kernel
theorem dX5_lowOf_16 : decode cX5_lowOf 16 = .ok (.bipush 8, 2) := by decide +kernel
theorem dX5_lowOf_18 : decode cX5_lowOf 18 = .ok (.if_icmp .ne 7, 3) := by decide +kernel
theorem dX5_lowOf_21 : decode cX5_lowOf 21 = .ok (.iconst 1, 1) := by decide +kernel
theorem dX5_lowOf_22 : decode cX5_lowOf 22 = .ok (.goto 4, 3) := by decide +kernel
theorem dX5_lowOf_25 : decode cX5_lowOf 25 = .ok (.iconst 0, 1) := by decide +kernel
theorem dX5_lowOf_26 : decode cX5_lowOf 26 = .ok (.ireturn, 1) := by decide +kernel
theorem dX5_highOf_0 : decode cX5_highOf 0 = .ok (.iload_n 0, 1) := by decide +kernel
theorem dX5_highOf_1 : decode cX5_highOf 1 = .ok (.tableswitch 58 1 8 #[47, 58, 50, 50, 58, 53, 58, 56], 47) := by decide +kernel
theorem dX5_highOf_48 : decode cX5_highOf 48 = .ok (.bipush 20, 2) := by decide +kernel
theorem dX5_highOf_50 : decode cX5_highOf 50 = .ok (.ireturn, 1) := by decide +kernel
theorem dX5_highOf_51 : decode cX5_highOf 51 = .ok (.bipush 6, 2) := by decide +kernel
theorem dX5_highOf_53 : decode cX5_highOf 53 = .ok (.ireturn, 1) := by decide +kernel
theorem dX5_highOf_54 : decode cX5_highOf 54 = .ok (.bipush 99, 2) := by decide +kernel
theorem dX5_highOf_56 : decode cX5_highOf 56 = .ok (.ireturn, 1) := by decide +kernel
theorem dX5_highOf_57 : decode cX5_highOf 57 = .ok (.iconst 4, 1) := by decide +kernel
theorem dX5_highOf_58 : decode cX5_highOf 58 = .ok (.ireturn, 1) := by decide +kernel
theorem dX5_highOf_59 : decode cX5_highOf 59 = .ok (.bipush 9, 2) := by decide +kernel
theorem dX5_highOf_61 : decode cX5_highOf 61 = .ok (.ireturn, 1) := by decide +kernel
theorem dX5_readsService_0 : decode cX5_readsService 0 = .ok (.aload_n 0, 1) := by decide +kernel
theorem dX5_readsService_1 : decode cX5_readsService 1 = .ok (.bipush 12, 2) := by decide +kernel
theorem dX5_readsService_3 : decode cX5_readsService 3 = .ok (.bipush 7, 2) := by decide +kernel
theorem dX5_readsService_5 : decode cX5_readsService 5 = .ok (.invokevirtual 52, 3) := by decide +kernel
theorem dX5_readsService_8 : decode cX5_readsService 8 = .ok (.istore_n 1, 1) := by decide +kernel
theorem dX5_readsService_9 : decode cX5_readsService 9 = .ok (.aload_n 0, 1) := by decide +kernel
theorem dX5_readsService_10 : decode cX5_readsService 10 = .ok (.bipush 115, 2) := by decide +kernel
theorem dX5_readsService_12 : decode cX5_readsService 12 = .ok (.invokevirtual 150, 3) := by decide +kernel
theorem dX5_readsService_15 : decode cX5_readsService 15 = .ok (.ifCond .eq 13, 3) := by decide +kernel
theorem dX5_readsService_18 : decode cX5_readsService 18 = .ok (.iload_n 1, 1) := by decide +kernel
theorem dX5_readsService_19 : decode cX5_readsService 19 = .ok (.iconst 4, 1) := by decide +kernel
theorem dX5_readsService_20 : decode cX5_readsService 20 = .ok (.if_icmp .ne 8, 3) := by decide +kernel
theorem dX5_readsService_23 : decode cX5_readsService 23 = .ok (.aload_n 0, 1) := by decide +kernel
theorem dX5_readsService_24 : decode cX5_readsService 24 = .ok (.iconst 3, 1) := by decide +kernel
theorem dX5_readsService_25 : decode cX5_readsService 25 = .ok (.invokevirtual 153, 3) := by decide +kernel
theorem dX5_readsService_28 : decode cX5_readsService 28 = .ok (.aload_n 0, 1) := by decide +kernel
theorem dX5_readsService_29 : decode cX5_readsService 29 = .ok (.bipush 115, 2) := by decide +kernel
theorem dX5_readsService_31 : decode cX5_readsService 31 = .ok (.invokevirtual 159, 3) := by decide +kernel
theorem dX5_readsService_34 : decode cX5_readsService 34 = .ok (.aload_n 0, 1) := by decide +kernel
theorem dX5_readsService_35 : decode cX5_readsService 35 = .ok (.getfield 147, 3) := by decide +kernel
theorem dX5_readsService_38 : decode cX5_readsService 38 = .ok (.ifCond .le 4, 3) := by decide +kernel
theorem dX5_readsService_41 : decode cX5_readsService 41 = .ok (.return_, 1) := by decide +kernel
theorem dX5_readsService_42 : decode cX5_readsService 42 = .ok (.aload_n 0, 1) := by decide +kernel
theorem dX5_readsService_43 : decode cX5_readsService 43 = .ok (.bipush 12, 2) := by decide +kernel
theorem dX5_readsService_45 : decode cX5_readsService 45 = .ok (.bipush 7, 2) := by decide +kernel
theorem dX5_readsService_47 : decode cX5_readsService 47 = .ok (.iload_n 1, 1) := by decide +kernel
theorem dX5_readsService_48 : decode cX5_readsService 48 = .ok (.iconst 1, 1) := by decide +kernel
theorem dX5_readsService_49 : decode cX5_readsService 49 = .ok (.iadd, 1) := by decide +kernel
theorem dX5_readsService_50 : decode cX5_readsService 50 = .ok (.invokevirtual 97, 3) := by decide +kernel
theorem dX5_readsService_53 : decode cX5_readsService 53 = .ok (.iconst 0, 1) := by decide +kernel
theorem dX5_readsService_54 : decode cX5_readsService 54 = .ok (.istore_n 2, 1) := by decide +kernel
theorem dX5_readsService_55 : decode cX5_readsService 55 = .ok (.iload_n 2, 1) := by decide +kernel
theorem dX5_readsService_56 : decode cX5_readsService 56 = .ok (.bipush 8, 2) := by decide +kernel
theorem dX5_readsService_58 : decode cX5_readsService 58 = .ok (.if_icmp .gt 113, 3) := by decide +kernel
theorem dX5_readsService_61 : decode cX5_readsService 61 = .ok (.aload_n 0, 1) := by decide +kernel
theorem dX5_readsService_62 : decode cX5_readsService 62 = .ok (.bipush 12, 2) := by decide +kernel
theorem dX5_readsService_64 : decode cX5_readsService 64 = .ok (.iload_n 1, 1) := by decide +kernel
theorem dX5_readsService_65 : decode cX5_readsService 65 = .ok (.iload_n 2, 1) := by decide +kernel
theorem dX5_readsService_66 : decode cX5_readsService 66 = .ok (.invokestatic 40, 3) := by decide +kernel
theorem dX5_readsService_69 : decode cX5_readsService 69 = .ok (.iload_n 2, 1) := by decide +kernel
theorem dX5_readsService_70 : decode cX5_readsService 70 = .ok (.invokestatic 162, 3) := by decide +kernel
theorem dX5_readsService_73 : decode cX5_readsService 73 = .ok (.iload_n 2, 1) := by decide +kernel
theorem dX5_readsService_74 : decode cX5_readsService 74 = .ok (.invokestatic 165, 3) := by decide +kernel
theorem dX5_readsService_77 : decode cX5_readsService 77 = .ok (.invokevirtual 168, 3) := by decide +kernel
theorem dX5_readsService_80 : decode cX5_readsService 80 = .ok (.aload_n 0, 1) := by decide +kernel
theorem dX5_readsService_81 : decode cX5_readsService 81 = .ok (.getfield 147, 3) := by decide +kernel
theorem dX5_readsService_84 : decode cX5_readsService 84 = .ok (.ifCond .ne 32, 3) := by decide +kernel
theorem dX5_readsService_87 : decode cX5_readsService 87 = .ok (.iload_n 2, 1) := by decide +kernel
theorem dX5_readsService_88 : decode cX5_readsService 88 = .ok (.iconst 1, 1) := by decide +kernel
theorem dX5_readsService_89 : decode cX5_readsService 89 = .ok (.if_icmp .ne 27, 3) := by decide +kernel
theorem dX5_readsService_92 : decode cX5_readsService 92 = .ok (.aload_n 0, 1) := by decide +kernel
theorem dX5_readsService_93 : decode cX5_readsService 93 = .ok (.getfield 137, 3) := by decide +kernel
theorem dX5_readsService_96 : decode cX5_readsService 96 = .ok (.aload_n 0, 1) := by decide +kernel
theorem dX5_readsService_97 : decode cX5_readsService 97 = .ok (.getfield 7, 3) := by decide +kernel
theorem dX5_readsService_100 : decode cX5_readsService 100 = .ok (.bipush 12, 2) := by decide +kernel
theorem dX5_readsService_102 : decode cX5_readsService 102 = .ok (.iload_n 1, 1) := by decide +kernel
theorem dX5_readsService_103 : decode cX5_readsService 103 = .ok (.iconst 0, 1) := by decide +kernel
theorem dX5_readsService_104 : decode cX5_readsService 104 = .ok (.invokestatic 40, 3) := by decide +kernel
theorem dX5_readsService_107 : decode cX5_readsService 107 = .ok (.iaload, 1) := by decide +kernel
theorem dX5_readsService_108 : decode cX5_readsService 108 = .ok (.if_icmp .ge 8, 3) := by decide +kernel
theorem dX5_readsService_111 : decode cX5_readsService 111 = .ok (.aload_n 0, 1) := by decide +kernel
theorem dX5_readsService_112 : decode cX5_readsService 112 = .ok (.iconst 2, 1) := by decide +kernel
theorem dX5_readsService_113 : decode cX5_readsService 113 = .ok (.invokevirtual 153, 3) := by decide +kernel
theorem dX5_readsService_116 : decode cX5_readsService 116 = .ok (.aload_n 0, 1) := by decide +kernel
theorem dX5_readsService_117 : decode cX5_readsService 117 = .ok (.getfield 147, 3) := by decide +kernel
theorem dX5_readsService_120 : decode cX5_readsService 120 = .ok (.ifCond .ne 28, 3) := by decide +kernel
theorem dX5_readsService_123 : decode cX5_readsService 123 = .ok (.iload_n 2, 1) := by decide +kernel
theorem dX5_readsService_124 : decode cX5_readsService 124 = .ok (.ifCond .ne 24, 3) := by decide +kernel
theorem dX5_readsService_127 : decode cX5_readsService 127 = .ok (.aload_n 0, 1) := by decide +kernel
theorem dX5_readsService_128 : decode cX5_readsService 128 = .ok (.bipush 12, 2) := by decide +kernel
theorem dX5_readsService_130 : decode cX5_readsService 130 = .ok (.invokevirtual 171, 3) := by decide +kernel
theorem dX5_readsService_133 : decode cX5_readsService 133 = .ok (.aload_n 0, 1) := by decide +kernel
theorem dX5_readsService_134 : decode cX5_readsService 134 = .ok (.bipush 12, 2) := by decide +kernel
theorem dX5_readsService_136 : decode cX5_readsService 136 = .ok (.iconst 0, 1) := by decide +kernel
theorem dX5_readsService_137 : decode cX5_readsService 137 = .ok (.invokevirtual 52, 3) := by decide +kernel
theorem dX5_readsService_140 : decode cX5_readsService 140 = .ok (.if_icmp .le 8, 3) := by decide +kernel
theorem dX5_readsService_143 : decode cX5_readsService 143 = .ok (.aload_n 0, 1) := by decide +kernel
theorem dX5_readsService_144 : decode cX5_readsService 144 = .ok (.iconst 4, 1) := by decide +kernel
theorem dX5_readsService_145 : decode cX5_readsService 145 = .ok (.invokevirtual 153, 3) := by decide +kernel
theorem dX5_readsService_148 : decode cX5_readsService 148 = .ok (.aload_n 0, 1) := by decide +kernel
theorem dX5_readsService_149 : decode cX5_readsService 149 = .ok (.iload_n 2, 1) := by decide +kernel
theorem dX5_readsService_150 : decode cX5_readsService 150 = .ok (.bipush 8, 2) := by decide +kernel
theorem dX5_readsService_152 : decode cX5_readsService 152 = .ok (.if_icmp .ne 8, 3) := by decide +kernel
theorem dX5_readsService_155 : decode cX5_readsService 155 = .ok (.bipush 59, 2) := by decide +kernel
theorem dX5_readsService_157 : decode cX5_readsService 157 = .ok (.goto 5, 3) := by decide +kernel
theorem dX5_readsService_160 : decode cX5_readsService 160 = .ok (.bipush 44, 2) := by decide +kernel
theorem dX5_readsService_162 : decode cX5_readsService 162 = .ok (.invokevirtual 174, 3) := by decide +kernel
theorem dX5_readsService_165 : decode cX5_readsService 165 = .ok (.iinc 2 1, 3) := by decide +kernel
theorem dX5_readsService_168 : decode cX5_readsService 168 = .ok (.goto (-113), 3) := by decide +kernel
theorem dX5_readsService_171 : decode cX5_readsService 171 = .ok (.aload_n 0, 1) := by decide +kernel
theorem dX5_readsService_172 : decode cX5_readsService 172 = .ok (.getfield 7, 3) := by decide +kernel
theorem dX5_readsService_175 : decode cX5_readsService 175 = .ok (.bipush 12, 2) := by decide +kernel
theorem dX5_readsService_177 : decode cX5_readsService 177 = .ok (.iload_n 1, 1) := by decide +kernel
theorem dX5_readsService_178 : decode cX5_readsService 178 = .ok (.bipush 10, 2) := by decide +kernel
theorem dX5_readsService_180 : decode cX5_readsService 180 = .ok (.invokestatic 40, 3) := by decide +kernel
theorem dX5_readsService_183 : decode cX5_readsService 183 = .ok (.aload_n 0, 1) := by decide +kernel
theorem dX5_readsService_184 : decode cX5_readsService 184 = .ok (.getfield 7, 3) := by decide +kernel
theorem dX5_readsService_187 : decode cX5_readsService 187 = .ok (.bipush 12, 2) := by decide +kernel
theorem dX5_readsService_189 : decode cX5_readsService 189 = .ok (.iload_n 1, 1) := by decide +kernel
theorem dX5_readsService_190 : decode cX5_readsService 190 = .ok (.iconst 0, 1) := by decide +kernel
theorem dX5_readsService_191 : decode cX5_readsService 191 = .ok (.invokestatic 40, 3) := by decide +kernel
theorem dX5_readsService_194 : decode cX5_readsService 194 = .ok (.iaload, 1) := by decide +kernel
theorem dX5_readsService_195 : decode cX5_readsService 195 = .ok (.iastore, 1) := by decide +kernel
theorem dX5_readsService_196 : decode cX5_readsService 196 = .ok (.aload_n 0, 1) := by decide +kernel
theorem dX5_readsService_197 : decode cX5_readsService 197 = .ok (.getfield 147, 3) := by decide +kernel
theorem dX5_readsService_200 : decode cX5_readsService 200 = .ok (.ifCond .ne 18, 3) := by decide +kernel
theorem dX5_readsService_203 : decode cX5_readsService 203 = .ok (.aload_n 0, 1) := by decide +kernel
theorem dX5_readsService_204 : decode cX5_readsService 204 = .ok (.invokevirtual 177, 3) := by decide +kernel
theorem dX5_readsService_207 : decode cX5_readsService 207 = .ok (.ifCond .le 11, 3) := by decide +kernel
theorem dX5_readsService_210 : decode cX5_readsService 210 = .ok (.aload_n 0, 1) := by decide +kernel
theorem dX5_readsService_211 : decode cX5_readsService 211 = .ok (.iload_n 1, 1) := by decide +kernel
theorem dX5_readsService_212 : decode cX5_readsService 212 = .ok (.invokevirtual 181, 3) := by decide +kernel
theorem dX5_readsService_215 : decode cX5_readsService 215 = .ok (.goto (-19), 3) := by decide +kernel
theorem dX5_readsService_218 : decode cX5_readsService 218 = .ok (.return_, 1) := by decide +kernel
theorem dX5_kindOf_0 : decode cX5_kindOf 0 = .ok (.aload_n 0, 1) := by decide +kernel
theorem dX5_kindOf_1 : decode cX5_kindOf 1 = .ok (.bipush 116, 2) := by decide +kernel
theorem dX5_kindOf_3 : decode cX5_kindOf 3 = .ok (.invokevirtual 150, 3) := by decide +kernel
theorem dX5_kindOf_6 : decode cX5_kindOf 6 = .ok (.ifCond .eq 7, 3) := by decide +kernel
theorem dX5_kindOf_9 : decode cX5_kindOf 9 = .ok (.iconst 1, 1) := by decide +kernel
theorem dX5_kindOf_10 : decode cX5_kindOf 10 = .ok (.goto 43, 3) := by decide +kernel
theorem dX5_kindOf_13 : decode cX5_kindOf 13 = .ok (.aload_n 0, 1) := by decide +kernel
theorem dX5_kindOf_14 : decode cX5_kindOf 14 = .ok (.bipush 102, 2) := by decide +kernel
theorem dX5_kindOf_16 : decode cX5_kindOf 16 = .ok (.invokevirtual 150, 3) := by decide +kernel
theorem dX5_kindOf_19 : decode cX5_kindOf 19 = .ok (.ifCond .eq 7, 3) := by decide +kernel
theorem dX5_kindOf_22 : decode cX5_kindOf 22 = .ok (.iconst 2, 1) := by decide +kernel
theorem dX5_kindOf_23 : decode cX5_kindOf 23 = .ok (.goto 30, 3) := by decide +kernel
theorem dX5_kindOf_26 : decode cX5_kindOf 26 = .ok (.aload_n 0, 1) := by decide +kernel
theorem dX5_kindOf_27 : decode cX5_kindOf 27 = .ok (.bipush 97, 2) := by decide +kernel
theorem dX5_kindOf_29 : decode cX5_kindOf 29 = .ok (.invokevirtual 150, 3) := by decide +kernel
theorem dX5_kindOf_32 : decode cX5_kindOf 32 = .ok (.ifCond .eq 7, 3) := by decide +kernel
theorem dX5_kindOf_35 : decode cX5_kindOf 35 = .ok (.iconst 3, 1) := by decide +kernel
theorem dX5_kindOf_36 : decode cX5_kindOf 36 = .ok (.goto 17, 3) := by decide +kernel
theorem dX5_kindOf_39 : decode cX5_kindOf 39 = .ok (.aload_n 0, 1) := by decide +kernel
theorem dX5_kindOf_40 : decode cX5_kindOf 40 = .ok (.bipush 113, 2) := by decide +kernel
theorem dX5_kindOf_42 : decode cX5_kindOf 42 = .ok (.invokevirtual 150, 3) := by decide +kernel
theorem dX5_kindOf_45 : decode cX5_kindOf 45 = .ok (.ifCond .eq 7, 3) := by decide +kernel
theorem dX5_kindOf_48 : decode cX5_kindOf 48 = .ok (.iconst 4, 1) := by decide +kernel
theorem dX5_kindOf_49 : decode cX5_kindOf 49 = .ok (.goto 4, 3) := by decide +kernel
theorem dX5_kindOf_52 : decode cX5_kindOf 52 = .ok (.iconst 0, 1) := by decide +kernel
theorem dX5_kindOf_53 : decode cX5_kindOf 53 = .ok (.ireturn, 1) := by decide +kernel
theorem dX5_readsMeasure_0 : decode cX5_readsMeasure 0 = .ok (.aload_n 0, 1) := by decide +kernel
theorem dX5_readsMeasure_1 : decode cX5_readsMeasure 1 = .ok (.getfield 7, 3) := by decide +kernel
theorem dX5_readsMeasure_4 : decode cX5_readsMeasure 4 = .ok (.bipush 12, 2) := by decide +kernel
theorem dX5_readsMeasure_6 : decode cX5_readsMeasure 6 = .ok (.iload_n 1, 1) := by decide +kernel
theorem dX5_readsMeasure_7 : decode cX5_readsMeasure 7 = .ok (.bipush 9, 2) := by decide +kernel
theorem dX5_readsMeasure_9 : decode cX5_readsMeasure 9 = .ok (.invokestatic 40, 3) := by decide +kernel
theorem dX5_readsMeasure_12 : decode cX5_readsMeasure 12 = .ok (.iaload, 1) := by decide +kernel
theorem dX5_readsMeasure_13 : decode cX5_readsMeasure 13 = .ok (.istore_n 2, 1) := by decide +kernel
theorem dX5_readsMeasure_14 : decode cX5_readsMeasure 14 = .ok (.iload_n 2, 1) := by decide +kernel
theorem dX5_readsMeasure_15 : decode cX5_readsMeasure 15 = .ok (.iconst 3, 1) := by decide +kernel
theorem dX5_readsMeasure_16 : decode cX5_readsMeasure 16 = .ok (.if_icmp .ne 9, 3) := by decide +kernel
theorem dX5_readsMeasure_19 : decode cX5_readsMeasure 19 = .ok (.aload_n 0, 1) := by decide +kernel
theorem dX5_readsMeasure_20 : decode cX5_readsMeasure 20 = .ok (.iconst 3, 1) := by decide +kernel
theorem dX5_readsMeasure_21 : decode cX5_readsMeasure 21 = .ok (.invokevirtual 153, 3) := by decide +kernel
theorem dX5_readsMeasure_24 : decode cX5_readsMeasure 24 = .ok (.return_, 1) := by decide +kernel
theorem dX5_readsMeasure_25 : decode cX5_readsMeasure 25 = .ok (.aload_n 0, 1) := by decide +kernel
theorem dX5_readsMeasure_26 : decode cX5_readsMeasure 26 = .ok (.getfield 7, 3) := by decide +kernel
theorem dX5_readsMeasure_29 : decode cX5_readsMeasure 29 = .ok (.bipush 12, 2) := by decide +kernel
theorem dX5_readsMeasure_31 : decode cX5_readsMeasure 31 = .ok (.iload_n 1, 1) := by decide +kernel
theorem dX5_readsMeasure_32 : decode cX5_readsMeasure 32 = .ok (.bipush 9, 2) := by decide +kernel
theorem dX5_readsMeasure_34 : decode cX5_readsMeasure 34 = .ok (.invokestatic 40, 3) := by decide +kernel
theorem dX5_readsMeasure_37 : decode cX5_readsMeasure 37 = .ok (.iload_n 2, 1) := by decide +kernel
theorem dX5_readsMeasure_38 : decode cX5_readsMeasure 38 = .ok (.iconst 1, 1) := by decide +kernel
theorem dX5_readsMeasure_39 : decode cX5_readsMeasure 39 = .ok (.iadd, 1) := by decide +kernel
theorem dX5_readsMeasure_40 : decode cX5_readsMeasure 40 = .ok (.iastore, 1) := by decide +kernel
theorem dX5_readsMeasure_41 : decode cX5_readsMeasure 41 = .ok (.aload_n 0, 1) := by decide +kernel
theorem dX5_readsMeasure_42 : decode cX5_readsMeasure 42 = .ok (.getfield 7, 3) := by decide +kernel
theorem dX5_readsMeasure_45 : decode cX5_readsMeasure 45 = .ok (.bipush 12, 2) := by decide +kernel
theorem dX5_readsMeasure_47 : decode cX5_readsMeasure 47 = .ok (.iload_n 1, 1) := by decide +kernel
theorem dX5_readsMeasure_48 : decode cX5_readsMeasure 48 = .ok (.iload_n 2, 1) := by decide +kernel
theorem dX5_readsMeasure_49 : decode cX5_readsMeasure 49 = .ok (.iconst 0, 1) := by decide +kernel
theorem dX5_readsMeasure_50 : decode cX5_readsMeasure 50 = .ok (.invokestatic 63, 3) := by decide +kernel
theorem dX5_readsMeasure_53 : decode cX5_readsMeasure 53 = .ok (.aload_n 0, 1) := by decide +kernel
theorem dX5_readsMeasure_54 : decode cX5_readsMeasure 54 = .ok (.invokevirtual 177, 3) := by decide +kernel
theorem dX5_readsMeasure_57 : decode cX5_readsMeasure 57 = .ok (.iastore, 1) := by decide +kernel
theorem dX5_readsMeasure_58 : decode cX5_readsMeasure 58 = .ok (.aload_n 0, 1) := by decide +kernel
theorem dX5_readsMeasure_59 : decode cX5_readsMeasure 59 = .ok (.getfield 7, 3) := by decide +kernel
theorem dX5_readsMeasure_62 : decode cX5_readsMeasure 62 = .ok (.bipush 12, 2) := by decide +kernel
theorem dX5_readsMeasure_64 : decode cX5_readsMeasure 64 = .ok (.iload_n 1, 1) := by decide +kernel
theorem dX5_readsMeasure_65 : decode cX5_readsMeasure 65 = .ok (.iload_n 2, 1) := by decide +kernel
theorem dX5_readsMeasure_66 : decode cX5_readsMeasure 66 = .ok (.iconst 2, 1) := by decide +kernel
theorem dX5_readsMeasure_67 : decode cX5_readsMeasure 67 = .ok (.invokestatic 63, 3) := by decide +kernel
theorem dX5_readsMeasure_70 : decode cX5_readsMeasure 70 = .ok (.iconst (-1), 1) := by decide +kernel
theorem dX5_readsMeasure_71 : decode cX5_readsMeasure 71 = .ok (.iastore, 1) := by decide +kernel
theorem dX5_readsMeasure_72 : decode cX5_readsMeasure 72 = .ok (.aload_n 0, 1) := by decide +kernel
theorem dX5_readsMeasure_73 : decode cX5_readsMeasure 73 = .ok (.invokevirtual 156, 3) := by decide +kernel
theorem dX5_readsMeasure_76 : decode cX5_readsMeasure 76 = .ok (.aload_n 0, 1) := by decide +kernel
theorem dX5_readsMeasure_77 : decode cX5_readsMeasure 77 = .ok (.bipush 12, 2) := by decide +kernel
theorem dX5_readsMeasure_79 : decode cX5_readsMeasure 79 = .ok (.iload_n 1, 1) := by decide +kernel
theorem dX5_readsMeasure_80 : decode cX5_readsMeasure 80 = .ok (.iload_n 2, 1) := by decide +kernel
theorem dX5_readsMeasure_81 : decode cX5_readsMeasure 81 = .ok (.iconst 1, 1) := by decide +kernel
theorem dX5_readsMeasure_82 : decode cX5_readsMeasure 82 = .ok (.invokestatic 63, 3) := by decide +kernel
theorem dX5_readsMeasure_85 : decode cX5_readsMeasure 85 = .ok (.iconst 1, 1) := by decide +kernel
theorem dX5_readsMeasure_86 : decode cX5_readsMeasure 86 = .ok (.bipush 99, 2) := by decide +kernel
theorem dX5_readsMeasure_88 : decode cX5_readsMeasure 88 = .ok (.invokevirtual 168, 3) := by decide +kernel
theorem dX5_readsMeasure_91 : decode cX5_readsMeasure 91 = .ok (.aload_n 0, 1) := by decide +kernel
theorem dX5_readsMeasure_92 : decode cX5_readsMeasure 92 = .ok (.bipush 59, 2) := by decide +kernel
theorem dX5_readsMeasure_94 : decode cX5_readsMeasure 94 = .ok (.invokevirtual 174, 3) := by decide +kernel
theorem dX5_readsMeasure_97 : decode cX5_readsMeasure 97 = .ok (.return_, 1) := by decide +kernel
theorem dX5_readsHead_0 : decode cX5_readsHead 0 = .ok (.aload_n 0, 1) := by decide +kernel
theorem dX5_readsHead_1 : decode cX5_readsHead 1 = .ok (.bipush 104, 2) := by decide +kernel
theorem dX5_readsHead_3 : decode cX5_readsHead 3 = .ok (.invokevirtual 159, 3) := by decide +kernel
theorem dX5_readsHead_6 : decode cX5_readsHead 6 = .ok (.iconst 0, 1) := by decide +kernel
theorem dX5_readsHead_7 : decode cX5_readsHead 7 = .ok (.istore_n 1, 1) := by decide +kernel
theorem dX5_readsHead_8 : decode cX5_readsHead 8 = .ok (.iload_n 1, 1) := by decide +kernel
theorem dX5_readsHead_9 : decode cX5_readsHead 9 = .ok (.iconst 4, 1) := by decide +kernel
theorem dX5_readsHead_10 : decode cX5_readsHead 10 = .ok (.if_icmp .gt 91, 3) := by decide +kernel
theorem dX5_readsHead_13 : decode cX5_readsHead 13 = .ok (.iload_n 1, 1) := by decide +kernel
theorem dX5_readsHead_14 : decode cX5_readsHead 14 = .ok (.ifCond .eq 8, 3) := by decide +kernel
theorem dX5_readsHead_17 : decode cX5_readsHead 17 = .ok (.iload_n 1, 1) := by decide +kernel
theorem dX5_readsHead_18 : decode cX5_readsHead 18 = .ok (.iconst 1, 1) := by decide +kernel
theorem dX5_readsHead_19 : decode cX5_readsHead 19 = .ok (.if_icmp .ne 7, 3) := by decide +kernel
theorem dX5_readsHead_22 : decode cX5_readsHead 22 = .ok (.iconst 1, 1) := by decide +kernel
theorem dX5_readsHead_23 : decode cX5_readsHead 23 = .ok (.goto 13, 3) := by decide +kernel
theorem dX5_readsHead_26 : decode cX5_readsHead 26 = .ok (.iload_n 1, 1) := by decide +kernel
theorem dX5_readsHead_27 : decode cX5_readsHead 27 = .ok (.iconst 4, 1) := by decide +kernel
theorem dX5_readsHead_28 : decode cX5_readsHead 28 = .ok (.if_icmp .ne 7, 3) := by decide +kernel
theorem dX5_readsHead_31 : decode cX5_readsHead 31 = .ok (.iconst 2, 1) := by decide +kernel
theorem dX5_readsHead_32 : decode cX5_readsHead 32 = .ok (.goto 4, 3) := by decide +kernel
theorem dX5_readsHead_35 : decode cX5_readsHead 35 = .ok (.iconst 0, 1) := by decide +kernel
theorem dX5_readsHead_36 : decode cX5_readsHead 36 = .ok (.istore_n 2, 1) := by decide +kernel
theorem dX5_readsHead_37 : decode cX5_readsHead 37 = .ok (.iload_n 1, 1) := by decide +kernel
theorem dX5_readsHead_38 : decode cX5_readsHead 38 = .ok (.ifCond .ne 8, 3) := by decide +kernel
theorem dX5_readsHead_41 : decode cX5_readsHead 41 = .ok (.bipush 60, 2) := by decide +kernel
theorem dX5_readsHead_43 : decode cX5_readsHead 43 = .ok (.goto 24, 3) := by decide +kernel
theorem dX5_readsHead_46 : decode cX5_readsHead 46 = .ok (.iload_n 1, 1) := by decide +kernel
theorem dX5_readsHead_47 : decode cX5_readsHead 47 = .ok (.iconst 2, 1) := by decide +kernel
theorem dX5_readsHead_48 : decode cX5_readsHead 48 = .ok (.if_icmp .ne 8, 3) := by decide +kernel
theorem dX5_readsHead_51 : decode cX5_readsHead 51 = .ok (.bipush 9, 2) := by decide +kernel
theorem dX5_readsHead_53 : decode cX5_readsHead 53 = .ok (.goto 14, 3) := by decide +kernel
theorem dX5_readsHead_56 : decode cX5_readsHead 56 = .ok (.iload_n 1, 1) := by decide +kernel
theorem dX5_readsHead_57 : decode cX5_readsHead 57 = .ok (.iconst 3, 1) := by decide +kernel
theorem dX5_readsHead_58 : decode cX5_readsHead 58 = .ok (.if_icmp .ne 7, 3) := by decide +kernel
theorem dX5_readsHead_61 : decode cX5_readsHead 61 = .ok (.iconst 3, 1) := by decide +kernel
theorem dX5_readsHead_62 : decode cX5_readsHead 62 = .ok (.goto 5, 3) := by decide +kernel
theorem dX5_readsHead_65 : decode cX5_readsHead 65 = .ok (.bipush 6, 2) := by decide +kernel
theorem dX5_readsHead_67 : decode cX5_readsHead 67 = .ok (.istore_n 3, 1) := by decide +kernel
theorem dX5_readsHead_68 : decode cX5_readsHead 68 = .ok (.aload_n 0, 1) := by decide +kernel
theorem dX5_readsHead_69 : decode cX5_readsHead 69 = .ok (.sipush 4800, 3) := by decide +kernel
theorem dX5_readsHead_72 : decode cX5_readsHead 72 = .ok (.iload_n 1, 1) := by decide +kernel
theorem dX5_readsHead_73 : decode cX5_readsHead 73 = .ok (.iadd, 1) := by decide +kernel
theorem dX5_readsHead_74 : decode cX5_readsHead 74 = .ok (.iload_n 2, 1) := by decide +kernel
theorem dX5_readsHead_75 : decode cX5_readsHead 75 = .ok (.iload_n 3, 1) := by decide +kernel
theorem dX5_readsHead_76 : decode cX5_readsHead 76 = .ok (.invokevirtual 168, 3) := by decide +kernel
theorem dX5_readsHead_79 : decode cX5_readsHead 79 = .ok (.aload_n 0, 1) := by decide +kernel
theorem dX5_readsHead_80 : decode cX5_readsHead 80 = .ok (.iload_n 1, 1) := by decide +kernel
theorem dX5_readsHead_81 : decode cX5_readsHead 81 = .ok (.iconst 4, 1) := by decide +kernel
theorem dX5_readsHead_82 : decode cX5_readsHead 82 = .ok (.if_icmp .ne 8, 3) := by decide +kernel
theorem dX5_readsHead_85 : decode cX5_readsHead 85 = .ok (.bipush 59, 2) := by decide +kernel
theorem dX5_readsHead_87 : decode cX5_readsHead 87 = .ok (.goto 5, 3) := by decide +kernel
theorem dX5_readsHead_90 : decode cX5_readsHead 90 = .ok (.bipush 44, 2) := by decide +kernel
theorem dX5_readsHead_92 : decode cX5_readsHead 92 = .ok (.invokevirtual 174, 3) := by decide +kernel
theorem dX5_readsHead_95 : decode cX5_readsHead 95 = .ok (.iinc 1 1, 3) := by decide +kernel
theorem dX5_readsHead_98 : decode cX5_readsHead 98 = .ok (.goto (-90), 3) := by decide +kernel
theorem dX5_readsHead_101 : decode cX5_readsHead 101 = .ok (.return_, 1) := by decide +kernel
theorem dX5_house_0 : decode cX5_house 0 = .ok (.iconst 0, 1) := by decide +kernel
theorem dX5_house_1 : decode cX5_house 1 = .ok (.istore_n 1, 1) := by decide +kernel
theorem dX5_house_2 : decode cX5_house 2 = .ok (.iload_n 1, 1) := by decide +kernel
theorem dX5_house_3 : decode cX5_house 3 = .ok (.sipush 400, 3) := by decide +kernel
theorem dX5_house_6 : decode cX5_house 6 = .ok (.if_icmp .ge 17, 3) := by decide +kernel
theorem dX5_house_9 : decode cX5_house 9 = .ok (.aload_n 0, 1) := by decide +kernel
theorem dX5_house_10 : decode cX5_house 10 = .ok (.bipush 12, 2) := by decide +kernel
theorem dX5_house_12 : decode cX5_house 12 = .ok (.iload_n 1, 1) := by decide +kernel
theorem dX5_house_13 : decode cX5_house 13 = .ok (.iconst 0, 1) := by decide +kernel
theorem dX5_house_14 : decode cX5_house 14 = .ok (.invokevirtual 97, 3) := by decide +kernel
theorem dX5_house_17 : decode cX5_house 17 = .ok (.iinc 1 1, 3) := by decide +kernel
theorem dX5_house_20 : decode cX5_house 20 = .ok (.goto (-18), 3) := by decide +kernel
theorem dX5_house_23 : decode cX5_house 23 = .ok (.aload_n 0, 1) := by decide +kernel
theorem dX5_house_24 : decode cX5_house 24 = .ok (.iconst 0, 1) := by decide +kernel
theorem dX5_house_25 : decode cX5_house 25 = .ok (.putfield 129, 3) := by decide +kernel
theorem dX5_house_28 : decode cX5_house 28 = .ok (.aload_n 0, 1) := by decide +kernel
theorem dX5_house_29 : decode cX5_house 29 = .ok (.iconst 0, 1) := by decide +kernel
theorem dX5_house_30 : decode cX5_house 30 = .ok (.putfield 147, 3) := by decide +kernel
theorem dX5_house_33 : decode cX5_house 33 = .ok (.aload_n 0, 1) := by decide +kernel
theorem dX5_house_34 : decode cX5_house 34 = .ok (.invokevirtual 156, 3) := by decide +kernel
theorem dX5_house_37 : decode cX5_house 37 = .ok (.aload_n 0, 1) := by decide +kernel
theorem dX5_house_38 : decode cX5_house 38 = .ok (.invokevirtual 184, 3) := by decide +kernel
theorem dX5_house_41 : decode cX5_house 41 = .ok (.aload_n 0, 1) := by decide +kernel
theorem dX5_house_42 : decode cX5_house 42 = .ok (.getfield 147, 3) := by decide +kernel
theorem dX5_house_45 : decode cX5_house 45 = .ok (.ifCond .ne 7, 3) := by decide +kernel
theorem dX5_house_48 : decode cX5_house 48 = .ok (.aload_n 0, 1) := by decide +kernel
theorem dX5_house_49 : decode cX5_house 49 = .ok (.invokevirtual 187, 3) := by decide +kernel
theorem dX5_house_52 : decode cX5_house 52 = .ok (.aload_n 0, 1) := by decide +kernel
theorem dX5_house_53 : decode cX5_house 53 = .ok (.getfield 147, 3) := by decide +kernel
theorem dX5_house_56 : decode cX5_house 56 = .ok (.ifCond .ne 18, 3) := by decide +kernel
theorem dX5_house_59 : decode cX5_house 59 = .ok (.aload_n 0, 1) := by decide +kernel
theorem dX5_house_60 : decode cX5_house 60 = .ok (.getfield 140, 3) := by decide +kernel
theorem dX5_house_63 : decode cX5_house 63 = .ok (.iconst (-1), 1) := by decide +kernel
theorem dX5_house_64 : decode cX5_house 64 = .ok (.if_icmp .eq 10, 3) := by decide +kernel
theorem dX5_house_67 : decode cX5_house 67 = .ok (.aload_n 0, 1) := by decide +kernel
theorem dX5_house_68 : decode cX5_house 68 = .ok (.invokevirtual 187, 3) := by decide +kernel
theorem dX5_house_71 : decode cX5_house 71 = .ok (.goto (-19), 3) := by decide +kernel
theorem dX5_house_74 : decode cX5_house 74 = .ok (.aload_n 0, 1) := by decide +kernel
theorem dX5_house_75 : decode cX5_house 75 = .ok (.iconst 0, 1) := by decide +kernel
theorem dX5_house_76 : decode cX5_house 76 = .ok (.putfield 124, 3) := by decide +kernel
theorem dX5_house_79 : decode cX5_house 79 = .ok (.aload_n 0, 1) := by decide +kernel
theorem dX5_house_80 : decode cX5_house 80 = .ok (.aload_n 0, 1) := by decide +kernel
theorem dX5_house_81 : decode cX5_house 81 = .ok (.getfield 147, 3) := by decide +kernel
theorem dX5_house_84 : decode cX5_house 84 = .ok (.putfield 190, 3) := by decide +kernel
theorem dX5_house_87 : decode cX5_house 87 = .ok (.aload_n 0, 1) := by decide +kernel
theorem dX5_house_88 : decode cX5_house 88 = .ok (.getfield 147, 3) := by decide +kernel
theorem dX5_house_91 : decode cX5_house 91 = .ok (.ifCond .le 11, 3) := by decide +kernel
theorem dX5_house_94 : decode cX5_house 94 = .ok (.bipush (-100), 2) := by decide +kernel
theorem dX5_house_96 : decode cX5_house 96 = .ok (.aload_n 0, 1) := by decide +kernel
theorem dX5_house_97 : decode cX5_house 97 = .ok (.getfield 131, 3) := by decide +kernel
theorem dX5_house_100 : decode cX5_house 100 = .ok (.isub, 1) := by decide +kernel
theorem dX5_house_101 : decode cX5_house 101 = .ok (.ireturn, 1) := by decide +kernel
theorem dX5_house_102 : decode cX5_house 102 = .ok (.aload_n 0, 1) := by decide +kernel
theorem dX5_house_103 : decode cX5_house 103 = .ok (.bipush 12, 2) := by decide +kernel
theorem dX5_house_105 : decode cX5_house 105 = .ok (.iconst 5, 1) := by decide +kernel
theorem dX5_house_106 : decode cX5_house 106 = .ok (.aload_n 0, 1) := by decide +kernel
theorem dX5_house_107 : decode cX5_house 107 = .ok (.bipush 12, 2) := by decide +kernel
theorem dX5_house_109 : decode cX5_house 109 = .ok (.iconst 2, 1) := by decide +kernel
theorem dX5_house_110 : decode cX5_house 110 = .ok (.invokevirtual 52, 3) := by decide +kernel
theorem dX5_house_113 : decode cX5_house 113 = .ok (.invokevirtual 97, 3) := by decide +kernel
theorem dX5_house_116 : decode cX5_house 116 = .ok (.aload_n 0, 1) := by decide +kernel
theorem dX5_house_117 : decode cX5_house 117 = .ok (.bipush 12, 2) := by decide +kernel
theorem dX5_house_119 : decode cX5_house 119 = .ok (.iconst 0, 1) := by decide +kernel
theorem dX5_house_120 : decode cX5_house 120 = .ok (.invokevirtual 193, 3) := by decide +kernel
theorem dX5_house_123 : decode cX5_house 123 = .ok (.aload_n 0, 1) := by decide +kernel
theorem dX5_house_124 : decode cX5_house 124 = .ok (.iconst 0, 1) := by decide +kernel
theorem dX5_house_125 : decode cX5_house 125 = .ok (.putfield 196, 3) := by decide +kernel
theorem dX5_house_128 : decode cX5_house 128 = .ok (.aload_n 0, 1) := by decide +kernel
theorem dX5_house_129 : decode cX5_house 129 = .ok (.getfield 7, 3) := by decide +kernel
theorem dX5_house_132 : decode cX5_house 132 = .ok (.bipush 7, 2) := by decide +kernel
theorem dX5_house_134 : decode cX5_house 134 = .ok (.iaload, 1) := by decide +kernel
theorem dX5_house_135 : decode cX5_house 135 = .ok (.ireturn, 1) := by decide +kernel
theorem dX5_fault_0 : decode cX5_fault 0 = .ok (.aload_n 0, 1) := by decide +kernel
theorem dX5_fault_1 : decode cX5_fault 1 = .ok (.getfield 190, 3) := by decide +kernel
theorem dX5_fault_4 : decode cX5_fault 4 = .ok (.ireturn, 1) := by decide +kernel
theorem dX5_notes_0 : decode cX5_notes 0 = .ok (.aload_n 0, 1) := by decide +kernel
theorem dX5_notes_1 : decode cX5_notes 1 = .ok (.getfield 196, 3) := by decide +kernel
theorem dX5_notes_4 : decode cX5_notes 4 = .ok (.bipush 10, 2) := by decide +kernel
theorem dX5_notes_6 : decode cX5_notes 6 = .ok (.if_icmp .ne 35, 3) := by decide +kernel
theorem dX5_notes_9 : decode cX5_notes 9 = .ok (.iconst 1, 1) := by decide +kernel
theorem dX5_notes_10 : decode cX5_notes 10 = .ok (.istore_n 1, 1) := by decide +kernel
theorem dX5_notes_11 : decode cX5_notes 11 = .ok (.iload_n 1, 1) := by decide +kernel
theorem dX5_notes_12 : decode cX5_notes 12 = .ok (.bipush 10, 2) := by decide +kernel
theorem dX5_notes_14 : decode cX5_notes 14 = .ok (.if_icmp .ge 17, 3) := by decide +kernel
theorem dX5_notes_17 : decode cX5_notes 17 = .ok (.aload_n 0, 1) := by decide +kernel
theorem dX5_notes_18 : decode cX5_notes 18 = .ok (.iload_n 1, 1) := by decide +kernel
theorem dX5_notes_19 : decode cX5_notes 19 = .ok (.iconst 1, 1) := by decide +kernel
theorem dX5_notes_20 : decode cX5_notes 20 = .ok (.iadd, 1) := by decide +kernel
theorem dX5_notes_21 : decode cX5_notes 21 = .ok (.iload_n 1, 1) := by decide +kernel
theorem dX5_notes_22 : decode cX5_notes 22 = .ok (.invokevirtual 193, 3) := by decide +kernel
theorem dX5_notes_25 : decode cX5_notes 25 = .ok (.iinc 1 1, 3) := by decide +kernel
theorem dX5_notes_28 : decode cX5_notes 28 = .ok (.goto (-17), 3) := by decide +kernel
theorem dX5_notes_31 : decode cX5_notes 31 = .ok (.aload_n 0, 1) := by decide +kernel
theorem dX5_notes_32 : decode cX5_notes 32 = .ok (.dup, 1) := by decide +kernel
theorem dX5_notes_33 : decode cX5_notes 33 = .ok (.getfield 196, 3) := by decide +kernel
theorem dX5_notes_36 : decode cX5_notes 36 = .ok (.iconst 1, 1) := by decide +kernel
theorem dX5_notes_37 : decode cX5_notes 37 = .ok (.isub, 1) := by decide +kernel
theorem dX5_notes_38 : decode cX5_notes 38 = .ok (.putfield 196, 3) := by decide +kernel
theorem dX5_notes_41 : decode cX5_notes 41 = .ok (.aload_n 0, 1) := by decide +kernel
theorem dX5_notes_42 : decode cX5_notes 42 = .ok (.dup, 1) := by decide +kernel
theorem dX5_notes_43 : decode cX5_notes 43 = .ok (.getfield 196, 3) := by decide +kernel
theorem dX5_notes_46 : decode cX5_notes 46 = .ok (.iconst 1, 1) := by decide +kernel
theorem dX5_notes_47 : decode cX5_notes 47 = .ok (.iadd, 1) := by decide +kernel
theorem dX5_notes_48 : decode cX5_notes 48 = .ok (.putfield 196, 3) := by decide +kernel
theorem dX5_notes_51 : decode cX5_notes 51 = .ok (.aload_n 0, 1) := by decide +kernel
theorem dX5_notes_52 : decode cX5_notes 52 = .ok (.iconst 0, 1) := by decide +kernel
theorem dX5_notes_53 : decode cX5_notes 53 = .ok (.aload_n 0, 1) := by decide +kernel
theorem dX5_notes_54 : decode cX5_notes 54 = .ok (.getfield 196, 3) := by decide +kernel
theorem dX5_notes_57 : decode cX5_notes 57 = .ok (.invokevirtual 193, 3) := by decide +kernel
theorem dX5_notes_60 : decode cX5_notes 60 = .ok (.return_, 1) := by decide +kernel
theorem dX5_load_0 : decode cX5_load 0 = .ok (.aload_n 0, 1) := by decide +kernel
theorem dX5_load_1 : decode cX5_load 1 = .ok (.iload_n 1, 1) := by decide +kernel
theorem dX5_load_2 : decode cX5_load 2 = .ok (.iload_n 2, 1) := by decide +kernel
theorem dX5_load_3 : decode cX5_load 3 = .ok (.invokevirtual 199, 3) := by decide +kernel
theorem dX5_load_6 : decode cX5_load 6 = .ok (.ifCond .ne 6, 3) := by decide +kernel
theorem dX5_load_9 : decode cX5_load 9 = .ok (.ldc 203, 2) := by decide +kernel
theorem dX5_load_11 : decode cX5_load 11 = .ok (.ireturn, 1) := by decide +kernel
theorem dX5_load_12 : decode cX5_load 12 = .ok (.iload_n 3, 1) := by decide +kernel
theorem dX5_load_13 : decode cX5_load 13 = .ok (.i2l, 1) := by decide +kernel
theorem dX5_load_14 : decode cX5_load 14 = .ok (.ldc2_w 204, 3) := by decide +kernel
theorem dX5_load_17 : decode cX5_load 17 = .ok (.ldc2_w 206, 3) := by decide +kernel
theorem dX5_load_20 : decode cX5_load 20 = .ok (.invokestatic 44, 3) := by decide +kernel
theorem dX5_load_23 : decode cX5_load 23 = .ok (.ifCond .ne 6, 3) := by decide +kernel
theorem dX5_load_26 : decode cX5_load 26 = .ok (.ldc 123, 2) := by decide +kernel
theorem dX5_load_28 : decode cX5_load 28 = .ok (.ireturn, 1) := by decide +kernel
theorem dX5_load_29 : decode cX5_load 29 = .ok (.aload_n 0, 1) := by decide +kernel
theorem dX5_load_30 : decode cX5_load 30 = .ok (.invokevirtual 208, 3) := by decide +kernel
theorem dX5_load_33 : decode cX5_load 33 = .ok (.aload_n 0, 1) := by decide +kernel
theorem dX5_load_34 : decode cX5_load 34 = .ok (.getfield 7, 3) := by decide +kernel
theorem dX5_load_37 : decode cX5_load 37 = .ok (.iconst 0, 1) := by decide +kernel
theorem dX5_load_38 : decode cX5_load 38 = .ok (.iload_n 1, 1) := by decide +kernel
theorem dX5_load_39 : decode cX5_load 39 = .ok (.iload_n 2, 1) := by decide +kernel
theorem dX5_load_40 : decode cX5_load 40 = .ok (.iconst 2, 1) := by decide +kernel
theorem dX5_load_41 : decode cX5_load 41 = .ok (.invokestatic 63, 3) := by decide +kernel
theorem dX5_load_44 : decode cX5_load 44 = .ok (.iaload, 1) := by decide +kernel
theorem dX5_load_45 : decode cX5_load 45 = .ok (.istore 4, 2) := by decide +kernel
theorem dX5_load_47 : decode cX5_load 47 = .ok (.aload_n 0, 1) := by decide +kernel
theorem dX5_load_48 : decode cX5_load 48 = .ok (.getfield 7, 3) := by decide +kernel
theorem dX5_load_51 : decode cX5_load 51 = .ok (.iconst 0, 1) := by decide +kernel
theorem dX5_load_52 : decode cX5_load 52 = .ok (.iload_n 1, 1) := by decide +kernel
theorem dX5_load_53 : decode cX5_load 53 = .ok (.iload_n 2, 1) := by decide +kernel
theorem dX5_load_54 : decode cX5_load 54 = .ok (.iconst 2, 1) := by decide +kernel
theorem dX5_load_55 : decode cX5_load 55 = .ok (.invokestatic 63, 3) := by decide +kernel
theorem dX5_load_58 : decode cX5_load 58 = .ok (.iload_n 3, 1) := by decide +kernel
theorem dX5_load_59 : decode cX5_load 59 = .ok (.iastore, 1) := by decide +kernel
theorem dX5_load_60 : decode cX5_load 60 = .ok (.iload 4, 2) := by decide +kernel
theorem dX5_load_62 : decode cX5_load 62 = .ok (.ireturn, 1) := by decide +kernel
theorem dX5_set_0 : decode cX5_set 0 = .ok (.aload_n 0, 1) := by decide +kernel
theorem dX5_set_1 : decode cX5_set 1 = .ok (.iload_n 1, 1) := by decide +kernel
theorem dX5_set_2 : decode cX5_set 2 = .ok (.invokevirtual 48, 3) := by decide +kernel
theorem dX5_set_5 : decode cX5_set 5 = .ok (.ifCond .ne 6, 3) := by decide +kernel
theorem dX5_set_8 : decode cX5_set 8 = .ok (.ldc 203, 2) := by decide +kernel
theorem dX5_set_10 : decode cX5_set 10 = .ok (.ireturn, 1) := by decide +kernel
theorem dX5_set_11 : decode cX5_set 11 = .ok (.iload_n 2, 1) := by decide +kernel
theorem dX5_set_12 : decode cX5_set 12 = .ok (.i2l, 1) := by decide +kernel
theorem dX5_set_13 : decode cX5_set 13 = .ok (.lconst 0, 1) := by decide +kernel
theorem dX5_set_14 : decode cX5_set 14 = .ok (.ldc2_w 211, 3) := by decide +kernel
theorem dX5_set_17 : decode cX5_set 17 = .ok (.invokestatic 44, 3) := by decide +kernel
theorem dX5_set_20 : decode cX5_set 20 = .ok (.ifCond .eq 21, 3) := by decide +kernel
theorem dX5_set_23 : decode cX5_set 23 = .ok (.iload_n 3, 1) := by decide +kernel
theorem dX5_set_24 : decode cX5_set 24 = .ok (.i2l, 1) := by decide +kernel
theorem dX5_set_25 : decode cX5_set 25 = .ok (.iload_n 2, 1) := by decide +kernel
theorem dX5_set_26 : decode cX5_set 26 = .ok (.invokestatic 162, 3) := by decide +kernel
theorem dX5_set_29 : decode cX5_set 29 = .ok (.i2l, 1) := by decide +kernel
theorem dX5_set_30 : decode cX5_set 30 = .ok (.iload_n 2, 1) := by decide +kernel
theorem dX5_set_31 : decode cX5_set 31 = .ok (.invokestatic 165, 3) := by decide +kernel
theorem dX5_set_34 : decode cX5_set 34 = .ok (.i2l, 1) := by decide +kernel
theorem dX5_set_35 : decode cX5_set 35 = .ok (.invokestatic 44, 3) := by decide +kernel
theorem dX5_set_38 : decode cX5_set 38 = .ok (.ifCond .ne 6, 3) := by decide +kernel
theorem dX5_set_41 : decode cX5_set 41 = .ok (.ldc 123, 2) := by decide +kernel
theorem dX5_set_43 : decode cX5_set 43 = .ok (.ireturn, 1) := by decide +kernel
theorem dX5_set_44 : decode cX5_set 44 = .ok (.aload_n 0, 1) := by decide +kernel
theorem dX5_set_45 : decode cX5_set 45 = .ok (.getfield 7, 3) := by decide +kernel
theorem dX5_set_48 : decode cX5_set 48 = .ok (.iconst 0, 1) := by decide +kernel
theorem dX5_set_49 : decode cX5_set 49 = .ok (.iload_n 1, 1) := by decide +kernel
theorem dX5_set_50 : decode cX5_set 50 = .ok (.iload_n 2, 1) := by decide +kernel
theorem dX5_set_51 : decode cX5_set 51 = .ok (.invokestatic 40, 3) := by decide +kernel
theorem dX5_set_54 : decode cX5_set 54 = .ok (.iaload, 1) := by decide +kernel
theorem dX5_set_55 : decode cX5_set 55 = .ok (.istore 4, 2) := by decide +kernel
theorem dX5_set_57 : decode cX5_set 57 = .ok (.iload_n 2, 1) := by decide +kernel
theorem dX5_set_58 : decode cX5_set 58 = .ok (.ifCond .ne 41, 3) := by decide +kernel
theorem dX5_set_61 : decode cX5_set 61 = .ok (.iload_n 3, 1) := by decide +kernel
theorem dX5_set_62 : decode cX5_set 62 = .ok (.aload_n 0, 1) := by decide +kernel
theorem dX5_set_63 : decode cX5_set 63 = .ok (.getfield 7, 3) := by decide +kernel
theorem dX5_set_66 : decode cX5_set 66 = .ok (.iconst 0, 1) := by decide +kernel
theorem dX5_set_67 : decode cX5_set 67 = .ok (.iload_n 1, 1) := by decide +kernel
theorem dX5_set_68 : decode cX5_set 68 = .ok (.iconst 1, 1) := by decide +kernel
theorem dX5_set_69 : decode cX5_set 69 = .ok (.invokestatic 40, 3) := by decide +kernel
theorem dX5_set_72 : decode cX5_set 72 = .ok (.iaload, 1) := by decide +kernel
theorem dX5_set_73 : decode cX5_set 73 = .ok (.if_icmp .gt 22, 3) := by decide +kernel
theorem dX5_set_76 : decode cX5_set 76 = .ok (.aload_n 0, 1) := by decide +kernel
theorem dX5_set_77 : decode cX5_set 77 = .ok (.iconst 0, 1) := by decide +kernel
theorem dX5_set_78 : decode cX5_set 78 = .ok (.invokevirtual 171, 3) := by decide +kernel
theorem dX5_set_81 : decode cX5_set 81 = .ok (.iload 4, 2) := by decide +kernel
theorem dX5_set_83 : decode cX5_set 83 = .ok (.isub, 1) := by decide +kernel
theorem dX5_set_84 : decode cX5_set 84 = .ok (.iload_n 3, 1) := by decide +kernel
theorem dX5_set_85 : decode cX5_set 85 = .ok (.iadd, 1) := by decide +kernel
theorem dX5_set_86 : decode cX5_set 86 = .ok (.aload_n 0, 1) := by decide +kernel
theorem dX5_set_87 : decode cX5_set 87 = .ok (.getfield 7, 3) := by decide +kernel
theorem dX5_set_90 : decode cX5_set 90 = .ok (.iconst 0, 1) := by decide +kernel
theorem dX5_set_91 : decode cX5_set 91 = .ok (.iaload, 1) := by decide +kernel
theorem dX5_set_92 : decode cX5_set 92 = .ok (.if_icmp .le 7, 3) := by decide +kernel
theorem dX5_set_95 : decode cX5_set 95 = .ok (.iconst 1, 1) := by decide +kernel
theorem dX5_set_96 : decode cX5_set 96 = .ok (.goto 4, 3) := by decide +kernel
theorem dX5_set_99 : decode cX5_set 99 = .ok (.iconst 0, 1) := by decide +kernel
theorem dX5_set_100 : decode cX5_set 100 = .ok (.istore 5, 2) := by decide +kernel
theorem dX5_set_102 : decode cX5_set 102 = .ok (.iload 5, 2) := by decide +kernel
theorem dX5_set_104 : decode cX5_set 104 = .ok (.ifCond .ne 23, 3) := by decide +kernel
theorem dX5_set_107 : decode cX5_set 107 = .ok (.iload_n 2, 1) := by decide +kernel
theorem dX5_set_108 : decode cX5_set 108 = .ok (.iconst 1, 1) := by decide +kernel
theorem dX5_set_109 : decode cX5_set 109 = .ok (.if_icmp .ne 21, 3) := by decide +kernel
theorem dX5_set_112 : decode cX5_set 112 = .ok (.iload_n 3, 1) := by decide +kernel
theorem dX5_set_113 : decode cX5_set 113 = .ok (.aload_n 0, 1) := by decide +kernel
theorem dX5_set_114 : decode cX5_set 114 = .ok (.getfield 7, 3) := by decide +kernel
theorem dX5_set_117 : decode cX5_set 117 = .ok (.iconst 0, 1) := by decide +kernel
theorem dX5_set_118 : decode cX5_set 118 = .ok (.iload_n 1, 1) := by decide +kernel
theorem dX5_set_119 : decode cX5_set 119 = .ok (.iconst 0, 1) := by decide +kernel
theorem dX5_set_120 : decode cX5_set 120 = .ok (.invokestatic 40, 3) := by decide +kernel
theorem dX5_set_123 : decode cX5_set 123 = .ok (.iaload, 1) := by decide +kernel
theorem dX5_set_124 : decode cX5_set 124 = .ok (.if_icmp .ge 6, 3) := by decide +kernel
theorem dX5_set_127 : decode cX5_set 127 = .ok (.ldc 213, 2) := by decide +kernel
theorem dX5_set_129 : decode cX5_set 129 = .ok (.ireturn, 1) := by decide +kernel
theorem dX5_set_130 : decode cX5_set 130 = .ok (.aload_n 0, 1) := by decide +kernel
theorem dX5_set_131 : decode cX5_set 131 = .ok (.invokevirtual 208, 3) := by decide +kernel
theorem dX5_set_134 : decode cX5_set 134 = .ok (.aload_n 0, 1) := by decide +kernel
theorem dX5_set_135 : decode cX5_set 135 = .ok (.getfield 7, 3) := by decide +kernel
theorem dX5_set_138 : decode cX5_set 138 = .ok (.iconst 0, 1) := by decide +kernel
theorem dX5_set_139 : decode cX5_set 139 = .ok (.iload_n 1, 1) := by decide +kernel
theorem dX5_set_140 : decode cX5_set 140 = .ok (.iload_n 2, 1) := by decide +kernel
theorem dX5_set_141 : decode cX5_set 141 = .ok (.invokestatic 40, 3) := by decide +kernel
theorem dX5_set_144 : decode cX5_set 144 = .ok (.iload_n 3, 1) := by decide +kernel
theorem dX5_set_145 : decode cX5_set 145 = .ok (.iastore, 1) := by decide +kernel
theorem dX5_set_146 : decode cX5_set 146 = .ok (.iload 4, 2) := by decide +kernel
theorem dX5_set_148 : decode cX5_set 148 = .ok (.ireturn, 1) := by decide +kernel
theorem dX5_round_0 : decode cX5_round 0 = .ok (.aload_n 0, 1) := by decide +kernel
theorem dX5_round_1 : decode cX5_round 1 = .ok (.invokevirtual 214, 3) := by decide +kernel
theorem dX5_round_4 : decode cX5_round 4 = .ok (.ifCond .ne 6, 3) := by decide +kernel
theorem dX5_round_7 : decode cX5_round 7 = .ok (.ldc 203, 2) := by decide +kernel
theorem dX5_round_9 : decode cX5_round 9 = .ok (.ireturn, 1) := by decide +kernel
theorem dX5_round_10 : decode cX5_round 10 = .ok (.aload_n 0, 1) := by decide +kernel
theorem dX5_round_11 : decode cX5_round 11 = .ok (.invokevirtual 208, 3) := by decide +kernel
theorem dX5_round_14 : decode cX5_round 14 = .ok (.aload_n 0, 1) := by decide +kernel
theorem dX5_round_15 : decode cX5_round 15 = .ok (.iconst 0, 1) := by decide +kernel
theorem dX5_round_16 : decode cX5_round 16 = .ok (.invokevirtual 218, 3) := by decide +kernel
theorem dX5_round_19 : decode cX5_round 19 = .ok (.aload_n 0, 1) := by decide +kernel
theorem dX5_round_20 : decode cX5_round 20 = .ok (.iconst 0, 1) := by decide +kernel
theorem dX5_round_21 : decode cX5_round 21 = .ok (.invokevirtual 94, 3) := by decide +kernel
theorem dX5_round_24 : decode cX5_round 24 = .ok (.ireturn, 1) := by decide +kernel
theorem dX5_undo_0 : decode cX5_undo 0 = .ok (.aload_n 0, 1) := by decide +kernel
theorem dX5_undo_1 : decode cX5_undo 1 = .ok (.invokevirtual 214, 3) := by decide +kernel
theorem dX5_undo_4 : decode cX5_undo 4 = .ok (.ifCond .ne 6, 3) := by decide +kernel
theorem dX5_undo_7 : decode cX5_undo 7 = .ok (.ldc 203, 2) := by decide +kernel
theorem dX5_undo_9 : decode cX5_undo 9 = .ok (.ireturn, 1) := by decide +kernel
theorem dX5_undo_10 : decode cX5_undo 10 = .ok (.aload_n 0, 1) := by decide +kernel
theorem dX5_undo_11 : decode cX5_undo 11 = .ok (.getfield 196, 3) := by decide +kernel
theorem dX5_undo_14 : decode cX5_undo 14 = .ok (.ifCond .ne 6, 3) := by decide +kernel
theorem dX5_undo_17 : decode cX5_undo 17 = .ok (.ldc 213, 2) := by decide +kernel
theorem dX5_undo_19 : decode cX5_undo 19 = .ok (.ireturn, 1) := by decide +kernel
theorem dX5_undo_20 : decode cX5_undo 20 = .ok (.aload_n 0, 1) := by decide +kernel
theorem dX5_undo_21 : decode cX5_undo 21 = .ok (.aload_n 0, 1) := by decide +kernel
theorem dX5_undo_22 : decode cX5_undo 22 = .ok (.getfield 196, 3) := by decide +kernel
theorem dX5_undo_25 : decode cX5_undo 25 = .ok (.iconst 0, 1) := by decide +kernel
theorem dX5_undo_26 : decode cX5_undo 26 = .ok (.invokevirtual 193, 3) := by decide +kernel
theorem dX5_undo_29 : decode cX5_undo 29 = .ok (.aload_n 0, 1) := by decide +kernel
theorem dX5_undo_30 : decode cX5_undo 30 = .ok (.dup, 1) := by decide +kernel
theorem dX5_undo_31 : decode cX5_undo 31 = .ok (.getfield 196, 3) := by decide +kernel
theorem dX5_undo_34 : decode cX5_undo 34 = .ok (.iconst 1, 1) := by decide +kernel
theorem dX5_undo_35 : decode cX5_undo 35 = .ok (.isub, 1) := by decide +kernel
theorem dX5_undo_36 : decode cX5_undo 36 = .ok (.putfield 196, 3) := by decide +kernel
theorem dX5_undo_39 : decode cX5_undo 39 = .ok (.aload_n 0, 1) := by decide +kernel
theorem dX5_undo_40 : decode cX5_undo 40 = .ok (.getfield 196, 3) := by decide +kernel
theorem dX5_undo_43 : decode cX5_undo 43 = .ok (.ireturn, 1) := by decide +kernel
theorem dX5_nextStarting_0 : decode cX5_nextStarting 0 = .ok (.iconst (-1), 1) := by decide +kernel
theorem dX5_nextStarting_1 : decode cX5_nextStarting 1 = .ok (.istore_n 2, 1) := by decide +kernel
theorem dX5_nextStarting_2 : decode cX5_nextStarting 2 = .ok (.bipush 6, 2) := by decide +kernel
theorem dX5_nextStarting_4 : decode cX5_nextStarting 4 = .ok (.istore_n 3, 1) := by decide +kernel
theorem dX5_nextStarting_5 : decode cX5_nextStarting 5 = .ok (.iload_n 3, 1) := by decide +kernel
theorem dX5_nextStarting_6 : decode cX5_nextStarting 6 = .ok (.ifCond .lt 40, 3) := by decide +kernel
theorem dX5_nextStarting_9 : decode cX5_nextStarting 9 = .ok (.aload_n 0, 1) := by decide +kernel
theorem dX5_nextStarting_10 : decode cX5_nextStarting 10 = .ok (.getfield 7, 3) := by decide +kernel
theorem dX5_nextStarting_13 : decode cX5_nextStarting 13 = .ok (.iconst 0, 1) := by decide +kernel
theorem dX5_nextStarting_14 : decode cX5_nextStarting 14 = .ok (.iload_n 1, 1) := by decide +kernel
theorem dX5_nextStarting_15 : decode cX5_nextStarting 15 = .ok (.bipush 11, 2) := by decide +kernel
theorem dX5_nextStarting_17 : decode cX5_nextStarting 17 = .ok (.iload_n 3, 1) := by decide +kernel
theorem dX5_nextStarting_18 : decode cX5_nextStarting 18 = .ok (.iadd, 1) := by decide +kernel
theorem dX5_nextStarting_19 : decode cX5_nextStarting 19 = .ok (.invokestatic 40, 3) := by decide +kernel
theorem dX5_nextStarting_22 : decode cX5_nextStarting 22 = .ok (.iaload, 1) := by decide +kernel
theorem dX5_nextStarting_23 : decode cX5_nextStarting 23 = .ok (.ifCond .le 15, 3) := by decide +kernel
theorem dX5_nextStarting_26 : decode cX5_nextStarting 26 = .ok (.aload_n 0, 1) := by decide +kernel
theorem dX5_nextStarting_27 : decode cX5_nextStarting 27 = .ok (.getfield 7, 3) := by decide +kernel
theorem dX5_nextStarting_30 : decode cX5_nextStarting 30 = .ok (.bipush 6, 2) := by decide +kernel
theorem dX5_nextStarting_32 : decode cX5_nextStarting 32 = .ok (.iaload, 1) := by decide +kernel
theorem dX5_nextStarting_33 : decode cX5_nextStarting 33 = .ok (.iload_n 3, 1) := by decide +kernel
theorem dX5_nextStarting_34 : decode cX5_nextStarting 34 = .ok (.iadd, 1) := by decide +kernel
theorem dX5_nextStarting_35 : decode cX5_nextStarting 35 = .ok (.goto 4, 3) := by decide +kernel
theorem dX5_nextStarting_38 : decode cX5_nextStarting 38 = .ok (.iload_n 2, 1) := by decide +kernel
theorem dX5_nextStarting_39 : decode cX5_nextStarting 39 = .ok (.istore_n 2, 1) := by decide +kernel
theorem dX5_nextStarting_40 : decode cX5_nextStarting 40 = .ok (.iinc 3 (-1), 3) := by decide +kernel
theorem dX5_nextStarting_43 : decode cX5_nextStarting 43 = .ok (.goto (-38), 3) := by decide +kernel
theorem dX5_nextStarting_46 : decode cX5_nextStarting 46 = .ok (.iload_n 2, 1) := by decide +kernel
theorem dX5_nextStarting_47 : decode cX5_nextStarting 47 = .ok (.ireturn, 1) := by decide +kernel
theorem dX5_service_0 : decode cX5_service 0 = .ok (.aload_n 0, 1) := by decide +kernel
theorem dX5_service_1 : decode cX5_service 1 = .ok (.iload_n 1, 1) := by decide +kernel
theorem dX5_service_2 : decode cX5_service 2 = .ok (.invokevirtual 48, 3) := by decide +kernel
theorem dX5_service_5 : decode cX5_service 5 = .ok (.ifCond .ne 6, 3) := by decide +kernel
theorem dX5_service_8 : decode cX5_service 8 = .ok (.ldc 203, 2) := by decide +kernel
theorem dX5_service_10 : decode cX5_service 10 = .ok (.ireturn, 1) := by decide +kernel
theorem dX5_service_11 : decode cX5_service 11 = .ok (.iload_n 2, 1) := by decide +kernel
theorem dX5_service_12 : decode cX5_service 12 = .ok (.tableswitch 122 9 15 #[44, 57, 64, 77, 83, 96, 109], 44) := by decide +kernel
theorem dX5_service_56 : decode cX5_service 56 = .ok (.aload_n 0, 1) := by decide +kernel
theorem dX5_service_57 : decode cX5_service 57 = .ok (.getfield 7, 3) := by decide +kernel
theorem dX5_service_60 : decode cX5_service 60 = .ok (.iconst 0, 1) := by decide +kernel
theorem dX5_service_61 : decode cX5_service 61 = .ok (.iload_n 1, 1) := by decide +kernel
theorem dX5_service_62 : decode cX5_service 62 = .ok (.bipush 9, 2) := by decide +kernel
theorem dX5_service_64 : decode cX5_service 64 = .ok (.invokestatic 40, 3) := by decide +kernel
theorem dX5_service_67 : decode cX5_service 67 = .ok (.iaload, 1) := by decide +kernel
theorem dX5_service_68 : decode cX5_service 68 = .ok (.ireturn, 1) := by decide +kernel
theorem dX5_service_69 : decode cX5_service 69 = .ok (.aload_n 0, 1) := by decide +kernel
theorem dX5_service_70 : decode cX5_service 70 = .ok (.iconst 0, 1) := by decide +kernel
theorem dX5_service_71 : decode cX5_service 71 = .ok (.iload_n 1, 1) := by decide +kernel
theorem dX5_service_72 : decode cX5_service 72 = .ok (.invokevirtual 56, 3) := by decide +kernel
theorem dX5_service_75 : decode cX5_service 75 = .ok (.ireturn, 1) := by decide +kernel
theorem dX5_service_76 : decode cX5_service 76 = .ok (.aload_n 0, 1) := by decide +kernel
theorem dX5_service_77 : decode cX5_service 77 = .ok (.getfield 7, 3) := by decide +kernel
theorem dX5_service_80 : decode cX5_service 80 = .ok (.iconst 0, 1) := by decide +kernel
theorem dX5_service_81 : decode cX5_service 81 = .ok (.iload_n 1, 1) := by decide +kernel
theorem dX5_service_82 : decode cX5_service 82 = .ok (.bipush 10, 2) := by decide +kernel
theorem dX5_service_84 : decode cX5_service 84 = .ok (.invokestatic 40, 3) := by decide +kernel
theorem dX5_service_87 : decode cX5_service 87 = .ok (.iaload, 1) := by decide +kernel
theorem dX5_service_88 : decode cX5_service 88 = .ok (.ireturn, 1) := by decide +kernel
theorem dX5_service_89 : decode cX5_service 89 = .ok (.aload_n 0, 1) := by decide +kernel
theorem dX5_service_90 : decode cX5_service 90 = .ok (.iload_n 1, 1) := by decide +kernel
theorem dX5_service_91 : decode cX5_service 91 = .ok (.invokevirtual 221, 3) := by decide +kernel
theorem dX5_service_94 : decode cX5_service 94 = .ok (.ireturn, 1) := by decide +kernel
theorem dX5_service_95 : decode cX5_service 95 = .ok (.aload_n 0, 1) := by decide +kernel
theorem dX5_service_96 : decode cX5_service 96 = .ok (.getfield 7, 3) := by decide +kernel
theorem dX5_service_99 : decode cX5_service 99 = .ok (.iconst 0, 1) := by decide +kernel
theorem dX5_service_100 : decode cX5_service 100 = .ok (.iload_n 1, 1) := by decide +kernel
theorem dX5_service_101 : decode cX5_service 101 = .ok (.bipush 32, 2) := by decide +kernel
theorem dX5_service_103 : decode cX5_service 103 = .ok (.invokestatic 40, 3) := by decide +kernel
theorem dX5_service_106 : decode cX5_service 106 = .ok (.iaload, 1) := by decide +kernel
theorem dX5_service_107 : decode cX5_service 107 = .ok (.ireturn, 1) := by decide +kernel
theorem dX5_service_108 : decode cX5_service 108 = .ok (.aload_n 0, 1) := by decide +kernel
theorem dX5_service_109 : decode cX5_service 109 = .ok (.getfield 7, 3) := by decide +kernel
theorem dX5_service_112 : decode cX5_service 112 = .ok (.iconst 0, 1) := by decide +kernel
theorem dX5_service_113 : decode cX5_service 113 = .ok (.iload_n 1, 1) := by decide +kernel
theorem dX5_service_114 : decode cX5_service 114 = .ok (.bipush 33, 2) := by decide +kernel
theorem dX5_service_116 : decode cX5_service 116 = .ok (.invokestatic 40, 3) := by decide +kernel
theorem dX5_service_119 : decode cX5_service 119 = .ok (.iaload, 1) := by decide +kernel
theorem dX5_service_120 : decode cX5_service 120 = .ok (.ireturn, 1) := by decide +kernel
theorem dX5_service_121 : decode cX5_service 121 = .ok (.aload_n 0, 1) := by decide +kernel
theorem dX5_service_122 : decode cX5_service 122 = .ok (.getfield 7, 3) := by decide +kernel
theorem dX5_service_125 : decode cX5_service 125 = .ok (.iconst 0, 1) := by decide +kernel
theorem dX5_service_126 : decode cX5_service 126 = .ok (.iload_n 1, 1) := by decide +kernel
theorem dX5_service_127 : decode cX5_service 127 = .ok (.bipush 34, 2) := by decide +kernel
theorem dX5_service_129 : decode cX5_service 129 = .ok (.invokestatic 40, 3) := by decide +kernel
theorem dX5_service_132 : decode cX5_service 132 = .ok (.iaload, 1) := by decide +kernel
theorem dX5_service_133 : decode cX5_service 133 = .ok (.ireturn, 1) := by decide +kernel
theorem dX5_service_134 : decode cX5_service 134 = .ok (.iload_n 2, 1) := by decide +kernel
theorem dX5_service_135 : decode cX5_service 135 = .ok (.i2l, 1) := by decide +kernel
theorem dX5_service_136 : decode cX5_service 136 = .ok (.lconst 0, 1) := by decide +kernel
theorem dX5_service_137 : decode cX5_service 137 = .ok (.ldc2_w 211, 3) := by decide +kernel
theorem dX5_service_140 : decode cX5_service 140 = .ok (.invokestatic 44, 3) := by decide +kernel
theorem dX5_service_143 : decode cX5_service 143 = .ok (.ifCond .eq 17, 3) := by decide +kernel
theorem dX5_service_146 : decode cX5_service 146 = .ok (.aload_n 0, 1) := by decide +kernel
theorem dX5_service_147 : decode cX5_service 147 = .ok (.getfield 7, 3) := by decide +kernel
theorem dX5_service_150 : decode cX5_service 150 = .ok (.iconst 0, 1) := by decide +kernel
theorem dX5_service_151 : decode cX5_service 151 = .ok (.iload_n 1, 1) := by decide +kernel
theorem dX5_service_152 : decode cX5_service 152 = .ok (.iload_n 2, 1) := by decide +kernel
theorem dX5_service_153 : decode cX5_service 153 = .ok (.invokestatic 40, 3) := by decide +kernel
theorem dX5_service_156 : decode cX5_service 156 = .ok (.iaload, 1) := by decide +kernel
theorem dX5_service_157 : decode cX5_service 157 = .ok (.goto 5, 3) := by decide +kernel
theorem dX5_service_160 : decode cX5_service 160 = .ok (.ldc 123, 2) := by decide +kernel
theorem dX5_service_162 : decode cX5_service 162 = .ok (.ireturn, 1) := by decide +kernel
theorem dX5_tries_0 : decode cX5_tries 0 = .ok (.aload_n 0, 1) := by decide +kernel
theorem dX5_tries_1 : decode cX5_tries 1 = .ok (.iconst 0, 1) := by decide +kernel
theorem dX5_tries_2 : decode cX5_tries 2 = .ok (.bipush 11, 2) := by decide +kernel
theorem dX5_tries_4 : decode cX5_tries 4 = .ok (.invokevirtual 193, 3) := by decide +kernel
theorem dX5_tries_7 : decode cX5_tries 7 = .ok (.aload_n 0, 1) := by decide +kernel
theorem dX5_tries_8 : decode cX5_tries 8 = .ok (.bipush 11, 2) := by decide +kernel
theorem dX5_tries_10 : decode cX5_tries 10 = .ok (.invokevirtual 105, 3) := by decide +kernel
theorem dX5_tries_13 : decode cX5_tries 13 = .ok (.return_, 1) := by decide +kernel
theorem dX5_measure_0 : decode cX5_measure 0 = .ok (.aload_n 0, 1) := by decide +kernel
theorem dX5_measure_1 : decode cX5_measure 1 = .ok (.iload_n 1, 1) := by decide +kernel
theorem dX5_measure_2 : decode cX5_measure 2 = .ok (.iload_n 2, 1) := by decide +kernel
theorem dX5_measure_3 : decode cX5_measure 3 = .ok (.invokevirtual 199, 3) := by decide +kernel
theorem dX5_measure_6 : decode cX5_measure 6 = .ok (.ifCond .ne 6, 3) := by decide +kernel
theorem dX5_measure_9 : decode cX5_measure 9 = .ok (.ldc 203, 2) := by decide +kernel
theorem dX5_measure_11 : decode cX5_measure 11 = .ok (.ireturn, 1) := by decide +kernel
theorem dX5_measure_12 : decode cX5_measure 12 = .ok (.iload_n 3, 1) := by decide +kernel
theorem dX5_measure_13 : decode cX5_measure 13 = .ok (.i2l, 1) := by decide +kernel
theorem dX5_measure_14 : decode cX5_measure 14 = .ok (.lconst 0, 1) := by decide +kernel
theorem dX5_measure_15 : decode cX5_measure 15 = .ok (.ldc2_w 224, 3) := by decide +kernel
theorem dX5_measure_18 : decode cX5_measure 18 = .ok (.invokestatic 44, 3) := by decide +kernel
theorem dX5_measure_21 : decode cX5_measure 21 = .ok (.ifCond .eq 16, 3) := by decide +kernel
theorem dX5_measure_24 : decode cX5_measure 24 = .ok (.aload_n 0, 1) := by decide +kernel
theorem dX5_measure_25 : decode cX5_measure 25 = .ok (.getfield 7, 3) := by decide +kernel
theorem dX5_measure_28 : decode cX5_measure 28 = .ok (.iconst 0, 1) := by decide +kernel
theorem dX5_measure_29 : decode cX5_measure 29 = .ok (.iload_n 1, 1) := by decide +kernel
theorem dX5_measure_30 : decode cX5_measure 30 = .ok (.iload_n 2, 1) := by decide +kernel
theorem dX5_measure_31 : decode cX5_measure 31 = .ok (.iload_n 3, 1) := by decide +kernel
theorem dX5_measure_32 : decode cX5_measure 32 = .ok (.invokestatic 63, 3) := by decide +kernel
theorem dX5_measure_35 : decode cX5_measure 35 = .ok (.iaload, 1) := by decide +kernel
theorem dX5_measure_36 : decode cX5_measure 36 = .ok (.ireturn, 1) := by decide +kernel
theorem dX5_measure_37 : decode cX5_measure 37 = .ok (.iload_n 3, 1) := by decide +kernel
theorem dX5_measure_38 : decode cX5_measure 38 = .ok (.iconst 3, 1) := by decide +kernel
theorem dX5_measure_39 : decode cX5_measure 39 = .ok (.if_icmp .ne 28, 3) := by decide +kernel
theorem dX5_measure_42 : decode cX5_measure 42 = .ok (.aload_n 0, 1) := by decide +kernel
theorem dX5_measure_43 : decode cX5_measure 43 = .ok (.invokevirtual 226, 3) := by decide +kernel
theorem dX5_measure_46 : decode cX5_measure 46 = .ok (.aload_n 0, 1) := by decide +kernel
theorem dX5_measure_47 : decode cX5_measure 47 = .ok (.bipush 11, 2) := by decide +kernel
theorem dX5_measure_49 : decode cX5_measure 49 = .ok (.iload_n 1, 1) := by decide +kernel
theorem dX5_measure_50 : decode cX5_measure 50 = .ok (.iload_n 2, 1) := by decide +kernel
theorem dX5_measure_51 : decode cX5_measure 51 = .ok (.aload_n 0, 1) := by decide +kernel
theorem dX5_measure_52 : decode cX5_measure 52 = .ok (.getfield 7, 3) := by decide +kernel
theorem dX5_measure_55 : decode cX5_measure 55 = .ok (.iconst 0, 1) := by decide +kernel
theorem dX5_measure_56 : decode cX5_measure 56 = .ok (.iload_n 1, 1) := by decide +kernel
theorem dX5_measure_57 : decode cX5_measure 57 = .ok (.iload_n 2, 1) := by decide +kernel
theorem dX5_measure_58 : decode cX5_measure 58 = .ok (.iconst 2, 1) := by decide +kernel
theorem dX5_measure_59 : decode cX5_measure 59 = .ok (.invokestatic 63, 3) := by decide +kernel
theorem dX5_measure_62 : decode cX5_measure 62 = .ok (.iaload, 1) := by decide +kernel
theorem dX5_measure_63 : decode cX5_measure 63 = .ok (.invokevirtual 73, 3) := by decide +kernel
theorem dX5_measure_66 : decode cX5_measure 66 = .ok (.ireturn, 1) := by decide +kernel
theorem dX5_measure_67 : decode cX5_measure 67 = .ok (.iload_n 3, 1) := by decide +kernel
theorem dX5_measure_68 : decode cX5_measure 68 = .ok (.iconst 4, 1) := by decide +kernel
theorem dX5_measure_69 : decode cX5_measure 69 = .ok (.if_icmp .ne 9, 3) := by decide +kernel
theorem dX5_measure_72 : decode cX5_measure 72 = .ok (.aload_n 0, 1) := by decide +kernel
theorem dX5_measure_73 : decode cX5_measure 73 = .ok (.iconst 0, 1) := by decide +kernel
theorem dX5_measure_74 : decode cX5_measure 74 = .ok (.invokevirtual 59, 3) := by decide +kernel
theorem dX5_measure_77 : decode cX5_measure 77 = .ok (.ireturn, 1) := by decide +kernel
theorem dX5_measure_78 : decode cX5_measure 78 = .ok (.iload_n 3, 1) := by decide +kernel
theorem dX5_measure_79 : decode cX5_measure 79 = .ok (.i2l, 1) := by decide +kernel
theorem dX5_measure_80 : decode cX5_measure 80 = .ok (.ldc2_w 229, 3) := by decide +kernel
theorem dX5_measure_83 : decode cX5_measure 83 = .ok (.bipush 9, 2) := by decide +kernel
theorem dX5_measure_85 : decode cX5_measure 85 = .ok (.aload_n 0, 1) := by decide +kernel
theorem dX5_measure_86 : decode cX5_measure 86 = .ok (.iconst 0, 1) := by decide +kernel
theorem dX5_measure_87 : decode cX5_measure 87 = .ok (.invokevirtual 59, 3) := by decide +kernel
theorem dX5_measure_90 : decode cX5_measure 90 = .ok (.iadd, 1) := by decide +kernel
theorem dX5_measure_91 : decode cX5_measure 91 = .ok (.i2l, 1) := by decide +kernel
theorem dX5_measure_92 : decode cX5_measure 92 = .ok (.invokestatic 44, 3) := by decide +kernel
theorem dX5_measure_95 : decode cX5_measure 95 = .ok (.ifCond .eq 23, 3) := by decide +kernel
theorem dX5_measure_98 : decode cX5_measure 98 = .ok (.aload_n 0, 1) := by decide +kernel
theorem dX5_measure_99 : decode cX5_measure 99 = .ok (.getfield 7, 3) := by decide +kernel
theorem dX5_measure_102 : decode cX5_measure 102 = .ok (.iconst 0, 1) := by decide +kernel
theorem dX5_measure_103 : decode cX5_measure 103 = .ok (.iload_n 1, 1) := by decide +kernel
theorem dX5_measure_104 : decode cX5_measure 104 = .ok (.iload_n 2, 1) := by decide +kernel
theorem dX5_measure_105 : decode cX5_measure 105 = .ok (.iconst 3, 1) := by decide +kernel
theorem dX5_measure_106 : decode cX5_measure 106 = .ok (.iload_n 3, 1) := by decide +kernel
theorem dX5_measure_107 : decode cX5_measure 107 = .ok (.iadd, 1) := by decide +kernel
theorem dX5_measure_108 : decode cX5_measure 108 = .ok (.bipush 10, 2) := by decide +kernel
theorem dX5_measure_110 : decode cX5_measure 110 = .ok (.isub, 1) := by decide +kernel
theorem dX5_measure_111 : decode cX5_measure 111 = .ok (.invokestatic 63, 3) := by decide +kernel
theorem dX5_measure_114 : decode cX5_measure 114 = .ok (.iaload, 1) := by decide +kernel
theorem dX5_measure_115 : decode cX5_measure 115 = .ok (.goto 5, 3) := by decide +kernel
theorem dX5_measure_118 : decode cX5_measure 118 = .ok (.ldc 123, 2) := by decide +kernel
theorem dX5_measure_120 : decode cX5_measure 120 = .ok (.ireturn, 1) := by decide +kernel
theorem dX5_starting_0 : decode cX5_starting 0 = .ok (.aload_n 0, 1) := by decide +kernel
theorem dX5_starting_1 : decode cX5_starting 1 = .ok (.iload_n 1, 1) := by decide +kernel
theorem dX5_starting_2 : decode cX5_starting 2 = .ok (.invokevirtual 48, 3) := by decide +kernel
theorem dX5_starting_5 : decode cX5_starting 5 = .ok (.ifCond .ne 6, 3) := by decide +kernel
theorem dX5_starting_8 : decode cX5_starting 8 = .ok (.ldc 203, 2) := by decide +kernel
theorem dX5_starting_10 : decode cX5_starting 10 = .ok (.ireturn, 1) := by decide +kernel
theorem dX5_starting_11 : decode cX5_starting 11 = .ok (.iload_n 2, 1) := by decide +kernel
theorem dX5_starting_12 : decode cX5_starting 12 = .ok (.i2l, 1) := by decide +kernel
theorem dX5_starting_13 : decode cX5_starting 13 = .ok (.aload_n 0, 1) := by decide +kernel
theorem dX5_starting_14 : decode cX5_starting 14 = .ok (.getfield 7, 3) := by decide +kernel
theorem dX5_starting_17 : decode cX5_starting 17 = .ok (.bipush 6, 2) := by decide +kernel
theorem dX5_starting_19 : decode cX5_starting 19 = .ok (.iaload, 1) := by decide +kernel
theorem dX5_starting_20 : decode cX5_starting 20 = .ok (.i2l, 1) := by decide +kernel
theorem dX5_starting_21 : decode cX5_starting 21 = .ok (.aload_n 0, 1) := by decide +kernel
theorem dX5_starting_22 : decode cX5_starting 22 = .ok (.getfield 7, 3) := by decide +kernel
theorem dX5_starting_25 : decode cX5_starting 25 = .ok (.bipush 6, 2) := by decide +kernel
theorem dX5_starting_27 : decode cX5_starting 27 = .ok (.iaload, 1) := by decide +kernel
theorem dX5_starting_28 : decode cX5_starting 28 = .ok (.i2l, 1) := by decide +kernel
theorem dX5_starting_29 : decode cX5_starting 29 = .ok (.ldc2_w 231, 3) := by decide +kernel
theorem dX5_starting_32 : decode cX5_starting 32 = .ok (.ladd, 1) := by decide +kernel
theorem dX5_starting_33 : decode cX5_starting 33 = .ok (.invokestatic 44, 3) := by decide +kernel
theorem dX5_starting_36 : decode cX5_starting 36 = .ok (.ifCond .eq 28, 3) := by decide +kernel
theorem dX5_starting_39 : decode cX5_starting 39 = .ok (.aload_n 0, 1) := by decide +kernel
theorem dX5_starting_40 : decode cX5_starting 40 = .ok (.getfield 7, 3) := by decide +kernel
theorem dX5_starting_43 : decode cX5_starting 43 = .ok (.iconst 0, 1) := by decide +kernel
theorem dX5_starting_44 : decode cX5_starting 44 = .ok (.iload_n 1, 1) := by decide +kernel
theorem dX5_starting_45 : decode cX5_starting 45 = .ok (.bipush 11, 2) := by decide +kernel
theorem dX5_starting_47 : decode cX5_starting 47 = .ok (.iload_n 2, 1) := by decide +kernel
theorem dX5_starting_48 : decode cX5_starting 48 = .ok (.iadd, 1) := by decide +kernel
theorem dX5_starting_49 : decode cX5_starting 49 = .ok (.aload_n 0, 1) := by decide +kernel
theorem dX5_starting_50 : decode cX5_starting 50 = .ok (.getfield 7, 3) := by decide +kernel
theorem dX5_starting_53 : decode cX5_starting 53 = .ok (.bipush 6, 2) := by decide +kernel
theorem dX5_starting_55 : decode cX5_starting 55 = .ok (.iaload, 1) := by decide +kernel
theorem dX5_starting_56 : decode cX5_starting 56 = .ok (.isub, 1) := by decide +kernel
theorem dX5_starting_57 : decode cX5_starting 57 = .ok (.invokestatic 40, 3) := by decide +kernel
theorem dX5_starting_60 : decode cX5_starting 60 = .ok (.iaload, 1) := by decide +kernel
theorem dX5_starting_61 : decode cX5_starting 61 = .ok (.goto 5, 3) := by decide +kernel
theorem dX5_starting_64 : decode cX5_starting 64 = .ok (.ldc 123, 2) := by decide +kernel
theorem dX5_starting_66 : decode cX5_starting 66 = .ok (.ireturn, 1) := by decide +kernel
theorem dX5_count_0 : decode cX5_count 0 = .ok (.iload_n 1, 1) := by decide +kernel
theorem dX5_count_1 : decode cX5_count 1 = .ok (.bipush 10, 2) := by decide +kernel
theorem dX5_count_3 : decode cX5_count 3 = .ok (.if_icmp .ne 8, 3) := by decide +kernel
theorem dX5_count_6 : decode cX5_count 6 = .ok (.aload_n 0, 1) := by decide +kernel
theorem dX5_count_7 : decode cX5_count 7 = .ok (.getfield 124, 3) := by decide +kernel
theorem dX5_count_10 : decode cX5_count 10 = .ok (.ireturn, 1) := by decide +kernel
theorem dX5_count_11 : decode cX5_count 11 = .ok (.aload_n 0, 1) := by decide +kernel
theorem dX5_count_12 : decode cX5_count 12 = .ok (.invokevirtual 214, 3) := by decide +kernel
theorem dX5_count_15 : decode cX5_count 15 = .ok (.ifCond .ne 6, 3) := by decide +kernel
theorem dX5_count_18 : decode cX5_count 18 = .ok (.ldc 203, 2) := by decide +kernel
theorem dX5_count_20 : decode cX5_count 20 = .ok (.ireturn, 1) := by decide +kernel
theorem dX5_count_21 : decode cX5_count 21 = .ok (.iload_n 1, 1) := by decide +kernel
theorem dX5_count_22 : decode cX5_count 22 = .ok (.tableswitch 88 0 9 #[54, 62, 70, 76, 88, 88, 88, 88, 88, 83], 54) := by decide +kernel
theorem dX5_count_76 : decode cX5_count 76 = .ok (.aload_n 0, 1) := by decide +kernel
theorem dX5_count_77 : decode cX5_count 77 = .ok (.getfield 7, 3) := by decide +kernel
theorem dX5_count_80 : decode cX5_count 80 = .ok (.bipush 6, 2) := by decide +kernel
theorem dX5_count_82 : decode cX5_count 82 = .ok (.iaload, 1) := by decide +kernel
theorem dX5_count_83 : decode cX5_count 83 = .ok (.ireturn, 1) := by decide +kernel
theorem dX5_count_84 : decode cX5_count 84 = .ok (.aload_n 0, 1) := by decide +kernel
theorem dX5_count_85 : decode cX5_count 85 = .ok (.getfield 7, 3) := by decide +kernel
theorem dX5_count_88 : decode cX5_count 88 = .ok (.bipush 7, 2) := by decide +kernel
theorem dX5_count_90 : decode cX5_count 90 = .ok (.iaload, 1) := by decide +kernel
theorem dX5_count_91 : decode cX5_count 91 = .ok (.ireturn, 1) := by decide +kernel
theorem dX5_count_92 : decode cX5_count 92 = .ok (.aload_n 0, 1) := by decide +kernel
theorem dX5_count_93 : decode cX5_count 93 = .ok (.iconst 0, 1) := by decide +kernel
theorem dX5_count_94 : decode cX5_count 94 = .ok (.invokevirtual 94, 3) := by decide +kernel
theorem dX5_count_97 : decode cX5_count 97 = .ok (.ireturn, 1) := by decide +kernel
theorem dX5_count_98 : decode cX5_count 98 = .ok (.aload_n 0, 1) := by decide +kernel
theorem dX5_count_99 : decode cX5_count 99 = .ok (.getfield 7, 3) := by decide +kernel
theorem dX5_count_102 : decode cX5_count 102 = .ok (.iconst 5, 1) := by decide +kernel
theorem dX5_count_103 : decode cX5_count 103 = .ok (.iaload, 1) := by decide +kernel
theorem dX5_count_104 : decode cX5_count 104 = .ok (.ireturn, 1) := by decide +kernel
theorem dX5_count_105 : decode cX5_count 105 = .ok (.aload_n 0, 1) := by decide +kernel
theorem dX5_count_106 : decode cX5_count 106 = .ok (.getfield 196, 3) := by decide +kernel
theorem dX5_count_109 : decode cX5_count 109 = .ok (.ireturn, 1) := by decide +kernel
theorem dX5_count_110 : decode cX5_count 110 = .ok (.iload_n 1, 1) := by decide +kernel
theorem dX5_count_111 : decode cX5_count 111 = .ok (.i2l, 1) := by decide +kernel
theorem dX5_count_112 : decode cX5_count 112 = .ok (.ldc2_w 233, 3) := by decide +kernel
theorem dX5_count_115 : decode cX5_count 115 = .ok (.ldc2_w 211, 3) := by decide +kernel
theorem dX5_count_118 : decode cX5_count 118 = .ok (.invokestatic 44, 3) := by decide +kernel
theorem dX5_count_121 : decode cX5_count 121 = .ok (.ifCond .eq 14, 3) := by decide +kernel
theorem dX5_count_124 : decode cX5_count 124 = .ok (.aload_n 0, 1) := by decide +kernel
theorem dX5_count_125 : decode cX5_count 125 = .ok (.getfield 7, 3) := by decide +kernel
theorem dX5_count_128 : decode cX5_count 128 = .ok (.iload_n 1, 1) := by decide +kernel
theorem dX5_count_129 : decode cX5_count 129 = .ok (.iconst 4, 1) := by decide +kernel
theorem dX5_count_130 : decode cX5_count 130 = .ok (.isub, 1) := by decide +kernel
theorem dX5_count_131 : decode cX5_count 131 = .ok (.iaload, 1) := by decide +kernel
theorem dX5_count_132 : decode cX5_count 132 = .ok (.goto 5, 3) := by decide +kernel
theorem dX5_count_135 : decode cX5_count 135 = .ok (.ldc 123, 2) := by decide +kernel
theorem dX5_count_137 : decode cX5_count 137 = .ok (.ireturn, 1) := by decide +kernel
theorem dX5_triesRound_0 : decode cX5_triesRound 0 = .ok (.aload_n 0, 1) := by decide +kernel
theorem dX5_triesRound_1 : decode cX5_triesRound 1 = .ok (.iconst 0, 1) := by decide +kernel
theorem dX5_triesRound_2 : decode cX5_triesRound 2 = .ok (.bipush 11, 2) := by decide +kernel
theorem dX5_triesRound_4 : decode cX5_triesRound 4 = .ok (.invokevirtual 193, 3) := by decide +kernel
theorem dX5_triesRound_7 : decode cX5_triesRound 7 = .ok (.aload_n 0, 1) := by decide +kernel
theorem dX5_triesRound_8 : decode cX5_triesRound 8 = .ok (.bipush 11, 2) := by decide +kernel
theorem dX5_triesRound_10 : decode cX5_triesRound 10 = .ok (.invokevirtual 218, 3) := by decide +kernel
theorem dX5_triesRound_13 : decode cX5_triesRound 13 = .ok (.return_, 1) := by decide +kernel
theorem dX5_would_0 : decode cX5_would 0 = .ok (.aload_n 0, 1) := by decide +kernel
theorem dX5_would_1 : decode cX5_would 1 = .ok (.iload_n 1, 1) := by decide +kernel
theorem dX5_would_2 : decode cX5_would 2 = .ok (.invokevirtual 48, 3) := by decide +kernel
theorem dX5_would_5 : decode cX5_would 5 = .ok (.ifCond .ne 6, 3) := by decide +kernel
theorem dX5_would_8 : decode cX5_would 8 = .ok (.ldc 203, 2) := by decide +kernel
theorem dX5_would_10 : decode cX5_would 10 = .ok (.ireturn, 1) := by decide +kernel
theorem dX5_would_11 : decode cX5_would 11 = .ok (.iload_n 2, 1) := by decide +kernel
theorem dX5_would_12 : decode cX5_would 12 = .ok (.i2l, 1) := by decide +kernel
theorem dX5_would_13 : decode cX5_would 13 = .ok (.lconst 0, 1) := by decide +kernel
theorem dX5_would_14 : decode cX5_would 14 = .ok (.ldc2_w 235, 3) := by decide +kernel
theorem dX5_would_17 : decode cX5_would 17 = .ok (.invokestatic 44, 3) := by decide +kernel
theorem dX5_would_20 : decode cX5_would 20 = .ok (.ifCond .ne 6, 3) := by decide +kernel
theorem dX5_would_23 : decode cX5_would 23 = .ok (.ldc 123, 2) := by decide +kernel
theorem dX5_would_25 : decode cX5_would 25 = .ok (.ireturn, 1) := by decide +kernel
theorem dX5_would_26 : decode cX5_would 26 = .ok (.aload_n 0, 1) := by decide +kernel
theorem dX5_would_27 : decode cX5_would 27 = .ok (.invokevirtual 237, 3) := by decide +kernel
theorem dX5_would_30 : decode cX5_would 30 = .ok (.iload_n 2, 1) := by decide +kernel
theorem dX5_would_31 : decode cX5_would 31 = .ok (.tableswitch 68 0 4 #[33, 40, 47, 54, 61], 33) := by decide +kernel
theorem dX5_would_64 : decode cX5_would 64 = .ok (.aload_n 0, 1) := by decide +kernel
theorem dX5_would_65 : decode cX5_would 65 = .ok (.getfield 13, 3) := by decide +kernel
theorem dX5_would_68 : decode cX5_would 68 = .ok (.iload_n 1, 1) := by decide +kernel
theorem dX5_would_69 : decode cX5_would 69 = .ok (.iaload, 1) := by decide +kernel
theorem dX5_would_70 : decode cX5_would 70 = .ok (.ireturn, 1) := by decide +kernel
theorem dX5_would_71 : decode cX5_would 71 = .ok (.aload_n 0, 1) := by decide +kernel
theorem dX5_would_72 : decode cX5_would 72 = .ok (.getfield 16, 3) := by decide +kernel
theorem dX5_would_75 : decode cX5_would 75 = .ok (.iload_n 1, 1) := by decide +kernel
theorem dX5_would_76 : decode cX5_would 76 = .ok (.iaload, 1) := by decide +kernel
theorem dX5_would_77 : decode cX5_would 77 = .ok (.ireturn, 1) := by decide +kernel
theorem dX5_would_78 : decode cX5_would 78 = .ok (.aload_n 0, 1) := by decide +kernel
theorem dX5_would_79 : decode cX5_would 79 = .ok (.getfield 19, 3) := by decide +kernel
theorem dX5_would_82 : decode cX5_would 82 = .ok (.iload_n 1, 1) := by decide +kernel
theorem dX5_would_83 : decode cX5_would 83 = .ok (.iaload, 1) := by decide +kernel
theorem dX5_would_84 : decode cX5_would 84 = .ok (.ireturn, 1) := by decide +kernel
theorem dX5_would_85 : decode cX5_would 85 = .ok (.aload_n 0, 1) := by decide +kernel
theorem dX5_would_86 : decode cX5_would 86 = .ok (.getfield 22, 3) := by decide +kernel
theorem dX5_would_89 : decode cX5_would 89 = .ok (.iload_n 1, 1) := by decide +kernel
theorem dX5_would_90 : decode cX5_would 90 = .ok (.iaload, 1) := by decide +kernel
theorem dX5_would_91 : decode cX5_would 91 = .ok (.ireturn, 1) := by decide +kernel
theorem dX5_would_92 : decode cX5_would 92 = .ok (.aload_n 0, 1) := by decide +kernel
theorem dX5_would_93 : decode cX5_would 93 = .ok (.getfield 25, 3) := by decide +kernel
theorem dX5_would_96 : decode cX5_would 96 = .ok (.iload_n 1, 1) := by decide +kernel
theorem dX5_would_97 : decode cX5_would 97 = .ok (.iaload, 1) := by decide +kernel
theorem dX5_would_98 : decode cX5_would 98 = .ok (.ireturn, 1) := by decide +kernel
theorem dX5_would_99 : decode cX5_would 99 = .ok (.aload_n 0, 1) := by decide +kernel
theorem dX5_would_100 : decode cX5_would 100 = .ok (.getfield 28, 3) := by decide +kernel
theorem dX5_would_103 : decode cX5_would 103 = .ok (.iload_n 1, 1) := by decide +kernel
theorem dX5_would_104 : decode cX5_would 104 = .ok (.iaload, 1) := by decide +kernel
theorem dX5_would_105 : decode cX5_would 105 = .ok (.ireturn, 1) := by decide +kernel
theorem dX5_why_0 : decode cX5_why 0 = .ok (.aload_n 0, 1) := by decide +kernel
theorem dX5_why_1 : decode cX5_why 1 = .ok (.iload_n 1, 1) := by decide +kernel
theorem dX5_why_2 : decode cX5_why 2 = .ok (.invokevirtual 48, 3) := by decide +kernel
theorem dX5_why_5 : decode cX5_why 5 = .ok (.ifCond .ne 6, 3) := by decide +kernel
theorem dX5_why_8 : decode cX5_why 8 = .ok (.ldc 203, 2) := by decide +kernel
theorem dX5_why_10 : decode cX5_why 10 = .ok (.ireturn, 1) := by decide +kernel
theorem dX5_why_11 : decode cX5_why 11 = .ok (.iload_n 2, 1) := by decide +kernel
theorem dX5_why_12 : decode cX5_why 12 = .ok (.ifCond .ge 6, 3) := by decide +kernel
theorem dX5_why_15 : decode cX5_why 15 = .ok (.ldc 123, 2) := by decide +kernel
theorem dX5_why_17 : decode cX5_why 17 = .ok (.ireturn, 1) := by decide +kernel
theorem dX5_why_18 : decode cX5_why 18 = .ok (.aload_n 0, 1) := by decide +kernel
theorem dX5_why_19 : decode cX5_why 19 = .ok (.invokevirtual 237, 3) := by decide +kernel
theorem dX5_why_22 : decode cX5_why 22 = .ok (.iload_n 2, 1) := by decide +kernel
theorem dX5_why_23 : decode cX5_why 23 = .ok (.istore_n 3, 1) := by decide +kernel
theorem dX5_why_24 : decode cX5_why 24 = .ok (.iconst (-1), 1) := by decide +kernel
theorem dX5_why_25 : decode cX5_why 25 = .ok (.istore 4, 2) := by decide +kernel
theorem dX5_why_27 : decode cX5_why 27 = .ok (.iconst 4, 1) := by decide +kernel
theorem dX5_why_28 : decode cX5_why 28 = .ok (.istore 5, 2) := by decide +kernel
theorem dX5_why_30 : decode cX5_why 30 = .ok (.iload 5, 2) := by decide +kernel
theorem dX5_why_32 : decode cX5_why 32 = .ok (.iconst 1, 1) := by decide +kernel
theorem dX5_why_33 : decode cX5_why 33 = .ok (.if_icmp .lt 158, 3) := by decide +kernel
theorem dX5_why_36 : decode cX5_why 36 = .ok (.iload 5, 2) := by decide +kernel
theorem dX5_why_38 : decode cX5_why 38 = .ok (.iconst 4, 1) := by decide +kernel
theorem dX5_why_39 : decode cX5_why 39 = .ok (.if_icmp .ne 35, 3) := by decide +kernel
theorem dX5_why_42 : decode cX5_why 42 = .ok (.aload_n 0, 1) := by decide +kernel
theorem dX5_why_43 : decode cX5_why 43 = .ok (.getfield 28, 3) := by decide +kernel
theorem dX5_why_46 : decode cX5_why 46 = .ok (.iload_n 1, 1) := by decide +kernel
theorem dX5_why_47 : decode cX5_why 47 = .ok (.iaload, 1) := by decide +kernel
theorem dX5_why_48 : decode cX5_why 48 = .ok (.ifCond .lt 22, 3) := by decide +kernel
theorem dX5_why_51 : decode cX5_why 51 = .ok (.aload_n 0, 1) := by decide +kernel
theorem dX5_why_52 : decode cX5_why 52 = .ok (.getfield 25, 3) := by decide +kernel
theorem dX5_why_55 : decode cX5_why 55 = .ok (.iload_n 1, 1) := by decide +kernel
theorem dX5_why_56 : decode cX5_why 56 = .ok (.iaload, 1) := by decide +kernel
theorem dX5_why_57 : decode cX5_why 57 = .ok (.aload_n 0, 1) := by decide +kernel
theorem dX5_why_58 : decode cX5_why 58 = .ok (.getfield 22, 3) := by decide +kernel
theorem dX5_why_61 : decode cX5_why 61 = .ok (.iload_n 1, 1) := by decide +kernel
theorem dX5_why_62 : decode cX5_why 62 = .ok (.iaload, 1) := by decide +kernel
theorem dX5_why_63 : decode cX5_why 63 = .ok (.if_icmp .ge 7, 3) := by decide +kernel
theorem dX5_why_66 : decode cX5_why 66 = .ok (.iconst 1, 1) := by decide +kernel
theorem dX5_why_67 : decode cX5_why 67 = .ok (.goto 85, 3) := by decide +kernel
theorem dX5_why_70 : decode cX5_why 70 = .ok (.iconst 0, 1) := by decide +kernel
theorem dX5_why_71 : decode cX5_why 71 = .ok (.goto 81, 3) := by decide +kernel
theorem dX5_why_74 : decode cX5_why 74 = .ok (.iload 5, 2) := by decide +kernel
theorem dX5_why_76 : decode cX5_why 76 = .ok (.iconst 3, 1) := by decide +kernel
theorem dX5_why_77 : decode cX5_why 77 = .ok (.if_icmp .ne 26, 3) := by decide +kernel
theorem dX5_why_80 : decode cX5_why 80 = .ok (.aload_n 0, 1) := by decide +kernel
theorem dX5_why_81 : decode cX5_why 81 = .ok (.getfield 22, 3) := by decide +kernel
theorem dX5_why_84 : decode cX5_why 84 = .ok (.iload_n 1, 1) := by decide +kernel
theorem dX5_why_85 : decode cX5_why 85 = .ok (.iaload, 1) := by decide +kernel
theorem dX5_why_86 : decode cX5_why 86 = .ok (.aload_n 0, 1) := by decide +kernel
theorem dX5_why_87 : decode cX5_why 87 = .ok (.getfield 19, 3) := by decide +kernel
theorem dX5_why_90 : decode cX5_why 90 = .ok (.iload_n 1, 1) := by decide +kernel
theorem dX5_why_91 : decode cX5_why 91 = .ok (.iaload, 1) := by decide +kernel
theorem dX5_why_92 : decode cX5_why 92 = .ok (.if_icmp .eq 7, 3) := by decide +kernel
theorem dX5_why_95 : decode cX5_why 95 = .ok (.iconst 1, 1) := by decide +kernel
theorem dX5_why_96 : decode cX5_why 96 = .ok (.goto 56, 3) := by decide +kernel
theorem dX5_why_99 : decode cX5_why 99 = .ok (.iconst 0, 1) := by decide +kernel
theorem dX5_why_100 : decode cX5_why 100 = .ok (.goto 52, 3) := by decide +kernel
theorem dX5_why_103 : decode cX5_why 103 = .ok (.iload 5, 2) := by decide +kernel
theorem dX5_why_105 : decode cX5_why 105 = .ok (.iconst 2, 1) := by decide +kernel
theorem dX5_why_106 : decode cX5_why 106 = .ok (.if_icmp .ne 26, 3) := by decide +kernel
theorem dX5_why_109 : decode cX5_why 109 = .ok (.aload_n 0, 1) := by decide +kernel
theorem dX5_why_110 : decode cX5_why 110 = .ok (.getfield 19, 3) := by decide +kernel
theorem dX5_why_113 : decode cX5_why 113 = .ok (.iload_n 1, 1) := by decide +kernel
theorem dX5_why_114 : decode cX5_why 114 = .ok (.iaload, 1) := by decide +kernel
theorem dX5_why_115 : decode cX5_why 115 = .ok (.aload_n 0, 1) := by decide +kernel
theorem dX5_why_116 : decode cX5_why 116 = .ok (.getfield 16, 3) := by decide +kernel
theorem dX5_why_119 : decode cX5_why 119 = .ok (.iload_n 1, 1) := by decide +kernel
theorem dX5_why_120 : decode cX5_why 120 = .ok (.iaload, 1) := by decide +kernel
theorem dX5_why_121 : decode cX5_why 121 = .ok (.if_icmp .eq 7, 3) := by decide +kernel
theorem dX5_why_124 : decode cX5_why 124 = .ok (.iconst 1, 1) := by decide +kernel
theorem dX5_why_125 : decode cX5_why 125 = .ok (.goto 27, 3) := by decide +kernel
theorem dX5_why_128 : decode cX5_why 128 = .ok (.iconst 0, 1) := by decide +kernel
theorem dX5_why_129 : decode cX5_why 129 = .ok (.goto 23, 3) := by decide +kernel
theorem dX5_why_132 : decode cX5_why 132 = .ok (.aload_n 0, 1) := by decide +kernel
theorem dX5_why_133 : decode cX5_why 133 = .ok (.getfield 16, 3) := by decide +kernel
theorem dX5_why_136 : decode cX5_why 136 = .ok (.iload_n 1, 1) := by decide +kernel
theorem dX5_why_137 : decode cX5_why 137 = .ok (.iaload, 1) := by decide +kernel
theorem dX5_why_138 : decode cX5_why 138 = .ok (.aload_n 0, 1) := by decide +kernel
theorem dX5_why_139 : decode cX5_why 139 = .ok (.getfield 13, 3) := by decide +kernel
theorem dX5_why_142 : decode cX5_why 142 = .ok (.iload_n 1, 1) := by decide +kernel
theorem dX5_why_143 : decode cX5_why 143 = .ok (.iaload, 1) := by decide +kernel
theorem dX5_why_144 : decode cX5_why 144 = .ok (.if_icmp .eq 7, 3) := by decide +kernel
theorem dX5_why_147 : decode cX5_why 147 = .ok (.iconst 1, 1) := by decide +kernel
theorem dX5_why_148 : decode cX5_why 148 = .ok (.goto 4, 3) := by decide +kernel
theorem dX5_why_151 : decode cX5_why 151 = .ok (.iconst 0, 1) := by decide +kernel
theorem dX5_why_152 : decode cX5_why 152 = .ok (.istore 6, 2) := by decide +kernel
theorem dX5_why_154 : decode cX5_why 154 = .ok (.iload 6, 2) := by decide +kernel
theorem dX5_why_156 : decode cX5_why 156 = .ok (.ifCond .eq 12, 3) := by decide +kernel
theorem dX5_why_159 : decode cX5_why 159 = .ok (.iload_n 3, 1) := by decide +kernel
theorem dX5_why_160 : decode cX5_why 160 = .ok (.ifCond .ne 8, 3) := by decide +kernel
theorem dX5_why_163 : decode cX5_why 163 = .ok (.iload 5, 2) := by decide +kernel
theorem dX5_why_165 : decode cX5_why 165 = .ok (.goto 5, 3) := by decide +kernel
theorem dX5_why_168 : decode cX5_why 168 = .ok (.iload 4, 2) := by decide +kernel
theorem dX5_why_170 : decode cX5_why 170 = .ok (.istore 4, 2) := by decide +kernel
theorem dX5_why_172 : decode cX5_why 172 = .ok (.iload_n 3, 1) := by decide +kernel
theorem dX5_why_173 : decode cX5_why 173 = .ok (.iload 6, 2) := by decide +kernel
theorem dX5_why_175 : decode cX5_why 175 = .ok (.ifCond .eq 7, 3) := by decide +kernel
theorem dX5_why_178 : decode cX5_why 178 = .ok (.iconst 1, 1) := by decide +kernel
theorem dX5_why_179 : decode cX5_why 179 = .ok (.goto 4, 3) := by decide +kernel
theorem dX5_why_182 : decode cX5_why 182 = .ok (.iconst 0, 1) := by decide +kernel
theorem dX5_why_183 : decode cX5_why 183 = .ok (.isub, 1) := by decide +kernel
theorem dX5_why_184 : decode cX5_why 184 = .ok (.istore_n 3, 1) := by decide +kernel
theorem dX5_why_185 : decode cX5_why 185 = .ok (.iinc 5 (-1), 3) := by decide +kernel
theorem dX5_why_188 : decode cX5_why 188 = .ok (.goto (-158), 3) := by decide +kernel
theorem dX5_why_191 : decode cX5_why 191 = .ok (.iload 4, 2) := by decide +kernel
theorem dX5_why_193 : decode cX5_why 193 = .ok (.ireturn, 1) := by decide +kernel
theorem dX5_forecast_0 : decode cX5_forecast 0 = .ok (.aload_n 0, 1) := by decide +kernel
theorem dX5_forecast_1 : decode cX5_forecast 1 = .ok (.iload_n 1, 1) := by decide +kernel
theorem dX5_forecast_2 : decode cX5_forecast 2 = .ok (.iload_n 2, 1) := by decide +kernel
theorem dX5_forecast_3 : decode cX5_forecast 3 = .ok (.invokevirtual 199, 3) := by decide +kernel
theorem dX5_forecast_6 : decode cX5_forecast 6 = .ok (.ifCond .ne 6, 3) := by decide +kernel
theorem dX5_forecast_9 : decode cX5_forecast 9 = .ok (.ldc 203, 2) := by decide +kernel
theorem dX5_forecast_11 : decode cX5_forecast 11 = .ok (.ireturn, 1) := by decide +kernel
theorem dX5_forecast_12 : decode cX5_forecast 12 = .ok (.iload_n 3, 1) := by decide +kernel
theorem dX5_forecast_13 : decode cX5_forecast 13 = .ok (.i2l, 1) := by decide +kernel
theorem dX5_forecast_14 : decode cX5_forecast 14 = .ok (.lconst 0, 1) := by decide +kernel
theorem dX5_forecast_15 : decode cX5_forecast 15 = .ok (.ldc2_w 240, 3) := by decide +kernel
theorem dX5_forecast_18 : decode cX5_forecast 18 = .ok (.invokestatic 44, 3) := by decide +kernel
theorem dX5_forecast_21 : decode cX5_forecast 21 = .ok (.ifCond .eq 14, 3) := by decide +kernel
theorem dX5_forecast_24 : decode cX5_forecast 24 = .ok (.aload_n 0, 1) := by decide +kernel
theorem dX5_forecast_25 : decode cX5_forecast 25 = .ok (.iconst 0, 1) := by decide +kernel
theorem dX5_forecast_26 : decode cX5_forecast 26 = .ok (.iload_n 1, 1) := by decide +kernel
theorem dX5_forecast_27 : decode cX5_forecast 27 = .ok (.iload_n 2, 1) := by decide +kernel
theorem dX5_forecast_28 : decode cX5_forecast 28 = .ok (.iload_n 3, 1) := by decide +kernel
theorem dX5_forecast_29 : decode cX5_forecast 29 = .ok (.invokevirtual 70, 3) := by decide +kernel
theorem dX5_forecast_32 : decode cX5_forecast 32 = .ok (.goto 5, 3) := by decide +kernel
theorem dX5_forecast_35 : decode cX5_forecast 35 = .ok (.ldc 123, 2) := by decide +kernel
theorem dX5_forecast_37 : decode cX5_forecast 37 = .ok (.ireturn, 1) := by decide +kernel
theorem dX5_allOf_0 : decode cX5_allOf 0 = .ok (.iconst 0, 1) := by decide +kernel
theorem dX5_allOf_1 : decode cX5_allOf 1 = .ok (.istore_n 3, 1) := by decide +kernel
theorem dX5_allOf_2 : decode cX5_allOf 2 = .ok (.iconst 0, 1) := by decide +kernel
theorem dX5_allOf_3 : decode cX5_allOf 3 = .ok (.istore 4, 2) := by decide +kernel
theorem dX5_allOf_5 : decode cX5_allOf 5 = .ok (.iload 4, 2) := by decide +kernel
theorem dX5_allOf_7 : decode cX5_allOf 7 = .ok (.aload_n 0, 1) := by decide +kernel
theorem dX5_allOf_8 : decode cX5_allOf 8 = .ok (.iload_n 1, 1) := by decide +kernel
theorem dX5_allOf_9 : decode cX5_allOf 9 = .ok (.bipush 7, 2) := by decide +kernel
theorem dX5_allOf_11 : decode cX5_allOf 11 = .ok (.invokevirtual 52, 3) := by decide +kernel
theorem dX5_allOf_14 : decode cX5_allOf 14 = .ok (.if_icmp .ge 24, 3) := by decide +kernel
theorem dX5_allOf_17 : decode cX5_allOf 17 = .ok (.iload_n 3, 1) := by decide +kernel
theorem dX5_allOf_18 : decode cX5_allOf 18 = .ok (.aload_n 0, 1) := by decide +kernel
theorem dX5_allOf_19 : decode cX5_allOf 19 = .ok (.getfield 7, 3) := by decide +kernel
theorem dX5_allOf_22 : decode cX5_allOf 22 = .ok (.iload_n 1, 1) := by decide +kernel
theorem dX5_allOf_23 : decode cX5_allOf 23 = .ok (.iload 4, 2) := by decide +kernel
theorem dX5_allOf_25 : decode cX5_allOf 25 = .ok (.iload_n 2, 1) := by decide +kernel
theorem dX5_allOf_26 : decode cX5_allOf 26 = .ok (.invokestatic 40, 3) := by decide +kernel
theorem dX5_allOf_29 : decode cX5_allOf 29 = .ok (.iaload, 1) := by decide +kernel
theorem dX5_allOf_30 : decode cX5_allOf 30 = .ok (.iadd, 1) := by decide +kernel
theorem dX5_allOf_31 : decode cX5_allOf 31 = .ok (.istore_n 3, 1) := by decide +kernel
theorem dX5_allOf_32 : decode cX5_allOf 32 = .ok (.iinc 4 1, 3) := by decide +kernel
theorem dX5_allOf_35 : decode cX5_allOf 35 = .ok (.goto (-30), 3) := by decide +kernel
theorem dX5_allOf_38 : decode cX5_allOf 38 = .ok (.iload_n 3, 1) := by decide +kernel
theorem dX5_allOf_39 : decode cX5_allOf 39 = .ok (.ireturn, 1) := by decide +kernel
theorem dX5_ahead_0 : decode cX5_ahead 0 = .ok (.aload_n 0, 1) := by decide +kernel
theorem dX5_ahead_1 : decode cX5_ahead 1 = .ok (.invokevirtual 214, 3) := by decide +kernel
theorem dX5_ahead_4 : decode cX5_ahead 4 = .ok (.ifCond .ne 6, 3) := by decide +kernel
theorem dX5_ahead_7 : decode cX5_ahead 7 = .ok (.ldc 203, 2) := by decide +kernel
theorem dX5_ahead_9 : decode cX5_ahead 9 = .ok (.ireturn, 1) := by decide +kernel
theorem dX5_ahead_10 : decode cX5_ahead 10 = .ok (.iload_n 1, 1) := by decide +kernel
theorem dX5_ahead_11 : decode cX5_ahead 11 = .ok (.i2l, 1) := by decide +kernel
theorem dX5_ahead_12 : decode cX5_ahead 12 = .ok (.lconst 1, 1) := by decide +kernel
theorem dX5_ahead_13 : decode cX5_ahead 13 = .ok (.ldc2_w 242, 3) := by decide +kernel
theorem dX5_ahead_16 : decode cX5_ahead 16 = .ok (.invokestatic 44, 3) := by decide +kernel
theorem dX5_ahead_19 : decode cX5_ahead 19 = .ok (.ifCond .eq 15, 3) := by decide +kernel
theorem dX5_ahead_22 : decode cX5_ahead 22 = .ok (.iload_n 2, 1) := by decide +kernel
theorem dX5_ahead_23 : decode cX5_ahead 23 = .ok (.i2l, 1) := by decide +kernel
theorem dX5_ahead_24 : decode cX5_ahead 24 = .ok (.lconst 0, 1) := by decide +kernel
theorem dX5_ahead_25 : decode cX5_ahead 25 = .ok (.ldc2_w 244, 3) := by decide +kernel
theorem dX5_ahead_28 : decode cX5_ahead 28 = .ok (.invokestatic 44, 3) := by decide +kernel
theorem dX5_ahead_31 : decode cX5_ahead 31 = .ok (.ifCond .ne 6, 3) := by decide +kernel
theorem dX5_ahead_34 : decode cX5_ahead 34 = .ok (.ldc 123, 2) := by decide +kernel
theorem dX5_ahead_36 : decode cX5_ahead 36 = .ok (.ireturn, 1) := by decide +kernel
theorem dX5_ahead_37 : decode cX5_ahead 37 = .ok (.aload_n 0, 1) := by decide +kernel
theorem dX5_ahead_38 : decode cX5_ahead 38 = .ok (.iconst 0, 1) := by decide +kernel
theorem dX5_ahead_39 : decode cX5_ahead 39 = .ok (.bipush 11, 2) := by decide +kernel
theorem dX5_ahead_41 : decode cX5_ahead 41 = .ok (.invokevirtual 193, 3) := by decide +kernel
theorem dX5_ahead_44 : decode cX5_ahead 44 = .ok (.iconst 0, 1) := by decide +kernel
theorem dX5_ahead_45 : decode cX5_ahead 45 = .ok (.istore_n 3, 1) := by decide +kernel
theorem dX5_ahead_46 : decode cX5_ahead 46 = .ok (.iload_n 3, 1) := by decide +kernel
theorem dX5_ahead_47 : decode cX5_ahead 47 = .ok (.iload_n 1, 1) := by decide +kernel
theorem dX5_ahead_48 : decode cX5_ahead 48 = .ok (.if_icmp .ge 15, 3) := by decide +kernel
theorem dX5_ahead_51 : decode cX5_ahead 51 = .ok (.aload_n 0, 1) := by decide +kernel
theorem dX5_ahead_52 : decode cX5_ahead 52 = .ok (.bipush 11, 2) := by decide +kernel
theorem dX5_ahead_54 : decode cX5_ahead 54 = .ok (.invokevirtual 218, 3) := by decide +kernel
theorem dX5_ahead_57 : decode cX5_ahead 57 = .ok (.iinc 3 1, 3) := by decide +kernel
theorem dX5_ahead_60 : decode cX5_ahead 60 = .ok (.goto (-14), 3) := by decide +kernel
theorem dX5_ahead_63 : decode cX5_ahead 63 = .ok (.iload_n 2, 1) := by decide +kernel
theorem dX5_ahead_64 : decode cX5_ahead 64 = .ok (.tableswitch 69 0 2 #[28, 35, 52], 28) := by decide +kernel
theorem dX5_ahead_92 : decode cX5_ahead 92 = .ok (.aload_n 0, 1) := by decide +kernel
theorem dX5_ahead_93 : decode cX5_ahead 93 = .ok (.bipush 11, 2) := by decide +kernel
theorem dX5_ahead_95 : decode cX5_ahead 95 = .ok (.invokevirtual 94, 3) := by decide +kernel
theorem dX5_ahead_98 : decode cX5_ahead 98 = .ok (.ireturn, 1) := by decide +kernel
theorem dX5_ahead_99 : decode cX5_ahead 99 = .ok (.aload_n 0, 1) := by decide +kernel
theorem dX5_ahead_100 : decode cX5_ahead 100 = .ok (.bipush 11, 2) := by decide +kernel
theorem dX5_ahead_102 : decode cX5_ahead 102 = .ok (.bipush 32, 2) := by decide +kernel
theorem dX5_ahead_104 : decode cX5_ahead 104 = .ok (.invokevirtual 246, 3) := by decide +kernel
theorem dX5_ahead_107 : decode cX5_ahead 107 = .ok (.aload_n 0, 1) := by decide +kernel
theorem dX5_ahead_108 : decode cX5_ahead 108 = .ok (.iconst 0, 1) := by decide +kernel
theorem dX5_ahead_109 : decode cX5_ahead 109 = .ok (.bipush 32, 2) := by decide +kernel
theorem dX5_ahead_111 : decode cX5_ahead 111 = .ok (.invokevirtual 246, 3) := by decide +kernel
theorem dX5_ahead_114 : decode cX5_ahead 114 = .ok (.isub, 1) := by decide +kernel
theorem dX5_ahead_115 : decode cX5_ahead 115 = .ok (.ireturn, 1) := by decide +kernel
theorem dX5_ahead_116 : decode cX5_ahead 116 = .ok (.aload_n 0, 1) := by decide +kernel
theorem dX5_ahead_117 : decode cX5_ahead 117 = .ok (.bipush 11, 2) := by decide +kernel
theorem dX5_ahead_119 : decode cX5_ahead 119 = .ok (.bipush 33, 2) := by decide +kernel
theorem dX5_ahead_121 : decode cX5_ahead 121 = .ok (.invokevirtual 246, 3) := by decide +kernel
theorem dX5_ahead_124 : decode cX5_ahead 124 = .ok (.aload_n 0, 1) := by decide +kernel
theorem dX5_ahead_125 : decode cX5_ahead 125 = .ok (.iconst 0, 1) := by decide +kernel
theorem dX5_ahead_126 : decode cX5_ahead 126 = .ok (.bipush 33, 2) := by decide +kernel
theorem dX5_ahead_128 : decode cX5_ahead 128 = .ok (.invokevirtual 246, 3) := by decide +kernel
theorem dX5_ahead_131 : decode cX5_ahead 131 = .ok (.isub, 1) := by decide +kernel
theorem dX5_ahead_132 : decode cX5_ahead 132 = .ok (.ireturn, 1) := by decide +kernel
theorem dX5_ahead_133 : decode cX5_ahead 133 = .ok (.aload_n 0, 1) := by decide +kernel
theorem dX5_ahead_134 : decode cX5_ahead 134 = .ok (.bipush 11, 2) := by decide +kernel
theorem dX5_ahead_136 : decode cX5_ahead 136 = .ok (.iconst 5, 1) := by decide +kernel
theorem dX5_ahead_137 : decode cX5_ahead 137 = .ok (.invokevirtual 52, 3) := by decide +kernel
theorem dX5_ahead_140 : decode cX5_ahead 140 = .ok (.ireturn, 1) := by decide +kernel
theorem dX5_until_0 : decode cX5_until 0 = .ok (.aload_n 0, 1) := by decide +kernel
theorem dX5_until_1 : decode cX5_until 1 = .ok (.iload_n 1, 1) := by decide +kernel
theorem dX5_until_2 : decode cX5_until 2 = .ok (.invokevirtual 48, 3) := by decide +kernel
theorem dX5_until_5 : decode cX5_until 5 = .ok (.ifCond .ne 6, 3) := by decide +kernel
theorem dX5_until_8 : decode cX5_until 8 = .ok (.ldc 203, 2) := by decide +kernel
theorem dX5_until_10 : decode cX5_until 10 = .ok (.ireturn, 1) := by decide +kernel
theorem dX5_until_11 : decode cX5_until 11 = .ok (.iload_n 2, 1) := by decide +kernel
theorem dX5_until_12 : decode cX5_until 12 = .ok (.i2l, 1) := by decide +kernel
theorem dX5_until_13 : decode cX5_until 13 = .ok (.lconst 1, 1) := by decide +kernel
theorem dX5_until_14 : decode cX5_until 14 = .ok (.ldc2_w 249, 3) := by decide +kernel
theorem dX5_until_17 : decode cX5_until 17 = .ok (.invokestatic 44, 3) := by decide +kernel
theorem dX5_until_20 : decode cX5_until 20 = .ok (.ifCond .ne 6, 3) := by decide +kernel
theorem dX5_until_23 : decode cX5_until 23 = .ok (.ldc 123, 2) := by decide +kernel
theorem dX5_until_25 : decode cX5_until 25 = .ok (.ireturn, 1) := by decide +kernel
theorem dX5_until_26 : decode cX5_until 26 = .ok (.aload_n 0, 1) := by decide +kernel
theorem dX5_until_27 : decode cX5_until 27 = .ok (.iconst 0, 1) := by decide +kernel
theorem dX5_until_28 : decode cX5_until 28 = .ok (.bipush 11, 2) := by decide +kernel
theorem dX5_until_30 : decode cX5_until 30 = .ok (.invokevirtual 193, 3) := by decide +kernel
theorem dX5_until_33 : decode cX5_until 33 = .ok (.iconst 1, 1) := by decide +kernel
theorem dX5_until_34 : decode cX5_until 34 = .ok (.istore_n 3, 1) := by decide +kernel
theorem dX5_until_35 : decode cX5_until 35 = .ok (.iload_n 3, 1) := by decide +kernel
theorem dX5_until_36 : decode cX5_until 36 = .ok (.bipush 50, 2) := by decide +kernel
theorem dX5_until_38 : decode cX5_until 38 = .ok (.if_icmp .gt 48, 3) := by decide +kernel
theorem dX5_until_41 : decode cX5_until 41 = .ok (.aload_n 0, 1) := by decide +kernel
theorem dX5_until_42 : decode cX5_until 42 = .ok (.bipush 11, 2) := by decide +kernel
theorem dX5_until_44 : decode cX5_until 44 = .ok (.invokevirtual 218, 3) := by decide +kernel
theorem dX5_until_47 : decode cX5_until 47 = .ok (.aload_n 0, 1) := by decide +kernel
theorem dX5_until_48 : decode cX5_until 48 = .ok (.getfield 7, 3) := by decide +kernel
theorem dX5_until_51 : decode cX5_until 51 = .ok (.bipush 11, 2) := by decide +kernel
theorem dX5_until_53 : decode cX5_until 53 = .ok (.iload_n 1, 1) := by decide +kernel
theorem dX5_until_54 : decode cX5_until 54 = .ok (.bipush 10, 2) := by decide +kernel
theorem dX5_until_56 : decode cX5_until 56 = .ok (.invokestatic 40, 3) := by decide +kernel
theorem dX5_until_59 : decode cX5_until 59 = .ok (.iaload, 1) := by decide +kernel
theorem dX5_until_60 : decode cX5_until 60 = .ok (.aload_n 0, 1) := by decide +kernel
theorem dX5_until_61 : decode cX5_until 61 = .ok (.getfield 7, 3) := by decide +kernel
theorem dX5_until_64 : decode cX5_until 64 = .ok (.bipush 11, 2) := by decide +kernel
theorem dX5_until_66 : decode cX5_until 66 = .ok (.iload_n 1, 1) := by decide +kernel
theorem dX5_until_67 : decode cX5_until 67 = .ok (.bipush 11, 2) := by decide +kernel
theorem dX5_until_69 : decode cX5_until 69 = .ok (.invokestatic 40, 3) := by decide +kernel
theorem dX5_until_72 : decode cX5_until 72 = .ok (.iaload, 1) := by decide +kernel
theorem dX5_until_73 : decode cX5_until 73 = .ok (.iadd, 1) := by decide +kernel
theorem dX5_until_74 : decode cX5_until 74 = .ok (.iload_n 2, 1) := by decide +kernel
theorem dX5_until_75 : decode cX5_until 75 = .ok (.if_icmp .lt 5, 3) := by decide +kernel
theorem dX5_until_78 : decode cX5_until 78 = .ok (.iload_n 3, 1) := by decide +kernel
theorem dX5_until_79 : decode cX5_until 79 = .ok (.ireturn, 1) := by decide +kernel
theorem dX5_until_80 : decode cX5_until 80 = .ok (.iinc 3 1, 3) := by decide +kernel
theorem dX5_until_83 : decode cX5_until 83 = .ok (.goto (-48), 3) := by decide +kernel
theorem dX5_until_86 : decode cX5_until 86 = .ok (.iconst (-1), 1) := by decide +kernel
theorem dX5_until_87 : decode cX5_until 87 = .ok (.ireturn, 1) := by decide +kernel
theorem dX5_needs_0 : decode cX5_needs 0 = .ok (.aload_n 0, 1) := by decide +kernel
theorem dX5_needs_1 : decode cX5_needs 1 = .ok (.iload_n 1, 1) := by decide +kernel
theorem dX5_needs_2 : decode cX5_needs 2 = .ok (.iload_n 2, 1) := by decide +kernel
theorem dX5_needs_3 : decode cX5_needs 3 = .ok (.invokevirtual 199, 3) := by decide +kernel
theorem dX5_needs_6 : decode cX5_needs 6 = .ok (.ifCond .ne 6, 3) := by decide +kernel
theorem dX5_needs_9 : decode cX5_needs 9 = .ok (.ldc 203, 2) := by decide +kernel
theorem dX5_needs_11 : decode cX5_needs 11 = .ok (.ireturn, 1) := by decide +kernel
theorem dX5_needs_12 : decode cX5_needs 12 = .ok (.iload_n 3, 1) := by decide +kernel
theorem dX5_needs_13 : decode cX5_needs 13 = .ok (.i2l, 1) := by decide +kernel
theorem dX5_needs_14 : decode cX5_needs 14 = .ok (.lconst 0, 1) := by decide +kernel
theorem dX5_needs_15 : decode cX5_needs 15 = .ok (.ldc2_w 251, 3) := by decide +kernel
theorem dX5_needs_18 : decode cX5_needs 18 = .ok (.invokestatic 44, 3) := by decide +kernel
theorem dX5_needs_21 : decode cX5_needs 21 = .ok (.ifCond .ne 6, 3) := by decide +kernel
theorem dX5_needs_24 : decode cX5_needs 24 = .ok (.ldc 123, 2) := by decide +kernel
theorem dX5_needs_26 : decode cX5_needs 26 = .ok (.ireturn, 1) := by decide +kernel
theorem dX5_needs_27 : decode cX5_needs 27 = .ok (.aload_n 0, 1) := by decide +kernel
theorem dX5_needs_28 : decode cX5_needs 28 = .ok (.invokevirtual 226, 3) := by decide +kernel
theorem dX5_needs_31 : decode cX5_needs 31 = .ok (.iconst 0, 1) := by decide +kernel
theorem dX5_needs_32 : decode cX5_needs 32 = .ok (.istore 4, 2) := by decide +kernel
theorem dX5_needs_34 : decode cX5_needs 34 = .ok (.iconst 0, 1) := by decide +kernel
theorem dX5_needs_35 : decode cX5_needs 35 = .ok (.istore 5, 2) := by decide +kernel
theorem dX5_needs_37 : decode cX5_needs 37 = .ok (.iload 5, 2) := by decide +kernel
theorem dX5_needs_39 : decode cX5_needs 39 = .ok (.aload_n 0, 1) := by decide +kernel
theorem dX5_needs_40 : decode cX5_needs 40 = .ok (.getfield 7, 3) := by decide +kernel
theorem dX5_needs_43 : decode cX5_needs 43 = .ok (.iconst 0, 1) := by decide +kernel
theorem dX5_needs_44 : decode cX5_needs 44 = .ok (.iload_n 1, 1) := by decide +kernel
theorem dX5_needs_45 : decode cX5_needs 45 = .ok (.bipush 9, 2) := by decide +kernel
theorem dX5_needs_47 : decode cX5_needs 47 = .ok (.invokestatic 40, 3) := by decide +kernel
theorem dX5_needs_50 : decode cX5_needs 50 = .ok (.iaload, 1) := by decide +kernel
theorem dX5_needs_51 : decode cX5_needs 51 = .ok (.if_icmp .ge 59, 3) := by decide +kernel
theorem dX5_needs_54 : decode cX5_needs 54 = .ok (.iload 5, 2) := by decide +kernel
theorem dX5_needs_56 : decode cX5_needs 56 = .ok (.iload_n 2, 1) := by decide +kernel
theorem dX5_needs_57 : decode cX5_needs 57 = .ok (.if_icmp .ne 7, 3) := by decide +kernel
theorem dX5_needs_60 : decode cX5_needs 60 = .ok (.iconst 0, 1) := by decide +kernel
theorem dX5_needs_61 : decode cX5_needs 61 = .ok (.goto 25, 3) := by decide +kernel
theorem dX5_needs_64 : decode cX5_needs 64 = .ok (.aload_n 0, 1) := by decide +kernel
theorem dX5_needs_65 : decode cX5_needs 65 = .ok (.bipush 11, 2) := by decide +kernel
theorem dX5_needs_67 : decode cX5_needs 67 = .ok (.iload_n 1, 1) := by decide +kernel
theorem dX5_needs_68 : decode cX5_needs 68 = .ok (.iload 5, 2) := by decide +kernel
theorem dX5_needs_70 : decode cX5_needs 70 = .ok (.aload_n 0, 1) := by decide +kernel
theorem dX5_needs_71 : decode cX5_needs 71 = .ok (.getfield 7, 3) := by decide +kernel
theorem dX5_needs_74 : decode cX5_needs 74 = .ok (.iconst 0, 1) := by decide +kernel
theorem dX5_needs_75 : decode cX5_needs 75 = .ok (.iload_n 1, 1) := by decide +kernel
theorem dX5_needs_76 : decode cX5_needs 76 = .ok (.iload 5, 2) := by decide +kernel
theorem dX5_needs_78 : decode cX5_needs 78 = .ok (.iconst 2, 1) := by decide +kernel
theorem dX5_needs_79 : decode cX5_needs 79 = .ok (.invokestatic 63, 3) := by decide +kernel
theorem dX5_needs_82 : decode cX5_needs 82 = .ok (.iaload, 1) := by decide +kernel
theorem dX5_needs_83 : decode cX5_needs 83 = .ok (.invokevirtual 73, 3) := by decide +kernel
theorem dX5_needs_86 : decode cX5_needs 86 = .ok (.istore 6, 2) := by decide +kernel
theorem dX5_needs_88 : decode cX5_needs 88 = .ok (.iload 6, 2) := by decide +kernel
theorem dX5_needs_90 : decode cX5_needs 90 = .ok (.iload 4, 2) := by decide +kernel
theorem dX5_needs_92 : decode cX5_needs 92 = .ok (.if_icmp .le 8, 3) := by decide +kernel
theorem dX5_needs_95 : decode cX5_needs 95 = .ok (.iload 6, 2) := by decide +kernel
theorem dX5_needs_97 : decode cX5_needs 97 = .ok (.goto 5, 3) := by decide +kernel
theorem dX5_needs_100 : decode cX5_needs 100 = .ok (.iload 4, 2) := by decide +kernel
theorem dX5_needs_102 : decode cX5_needs 102 = .ok (.istore 4, 2) := by decide +kernel
theorem dX5_needs_104 : decode cX5_needs 104 = .ok (.iinc 5 1, 3) := by decide +kernel
theorem dX5_needs_107 : decode cX5_needs 107 = .ok (.goto (-70), 3) := by decide +kernel
theorem dX5_needs_110 : decode cX5_needs 110 = .ok (.iconst 0, 1) := by decide +kernel
theorem dX5_needs_111 : decode cX5_needs 111 = .ok (.istore 5, 2) := by decide +kernel
theorem dX5_needs_113 : decode cX5_needs 113 = .ok (.iload 5, 2) := by decide +kernel
theorem dX5_needs_115 : decode cX5_needs 115 = .ok (.sipush 9999, 3) := by decide +kernel
theorem dX5_needs_118 : decode cX5_needs 118 = .ok (.if_icmp .gt 36, 3) := by decide +kernel
theorem dX5_needs_121 : decode cX5_needs 121 = .ok (.aload_n 0, 1) := by decide +kernel
theorem dX5_needs_122 : decode cX5_needs 122 = .ok (.bipush 11, 2) := by decide +kernel
theorem dX5_needs_124 : decode cX5_needs 124 = .ok (.iload_n 1, 1) := by decide +kernel
theorem dX5_needs_125 : decode cX5_needs 125 = .ok (.iload_n 2, 1) := by decide +kernel
theorem dX5_needs_126 : decode cX5_needs 126 = .ok (.iload 5, 2) := by decide +kernel
theorem dX5_needs_128 : decode cX5_needs 128 = .ok (.invokevirtual 73, 3) := by decide +kernel
theorem dX5_needs_131 : decode cX5_needs 131 = .ok (.istore 6, 2) := by decide +kernel
theorem dX5_needs_133 : decode cX5_needs 133 = .ok (.iload 6, 2) := by decide +kernel
theorem dX5_needs_135 : decode cX5_needs 135 = .ok (.iload_n 3, 1) := by decide +kernel
theorem dX5_needs_136 : decode cX5_needs 136 = .ok (.if_icmp .ge 9, 3) := by decide +kernel
theorem dX5_needs_139 : decode cX5_needs 139 = .ok (.iload 4, 2) := by decide +kernel
theorem dX5_needs_141 : decode cX5_needs 141 = .ok (.iload_n 3, 1) := by decide +kernel
theorem dX5_needs_142 : decode cX5_needs 142 = .ok (.if_icmp .lt 6, 3) := by decide +kernel
theorem dX5_needs_145 : decode cX5_needs 145 = .ok (.iload 5, 2) := by decide +kernel
theorem dX5_needs_147 : decode cX5_needs 147 = .ok (.ireturn, 1) := by decide +kernel
theorem dX5_needs_148 : decode cX5_needs 148 = .ok (.iinc 5 1, 3) := by decide +kernel
theorem dX5_needs_151 : decode cX5_needs 151 = .ok (.goto (-38), 3) := by decide +kernel
theorem dX5_needs_154 : decode cX5_needs 154 = .ok (.iconst (-1), 1) := by decide +kernel
theorem dX5_needs_155 : decode cX5_needs 155 = .ok (.ireturn, 1) := by decide +kernel
theorem dX5_replays_0 : decode cX5_replays 0 = .ok (.iconst 0, 1) := by decide +kernel
theorem dX5_replays_1 : decode cX5_replays 1 = .ok (.istore 4, 2) := by decide +kernel
theorem dX5_replays_3 : decode cX5_replays 3 = .ok (.iload 4, 2) := by decide +kernel
theorem dX5_replays_5 : decode cX5_replays 5 = .ok (.sipush 400, 3) := by decide +kernel
theorem dX5_replays_8 : decode cX5_replays 8 = .ok (.if_icmp .ge 18, 3) := by decide +kernel
theorem dX5_replays_11 : decode cX5_replays 11 = .ok (.aload_n 0, 1) := by decide +kernel
theorem dX5_replays_12 : decode cX5_replays 12 = .ok (.bipush 11, 2) := by decide +kernel
theorem dX5_replays_14 : decode cX5_replays 14 = .ok (.iload 4, 2) := by decide +kernel
theorem dX5_replays_16 : decode cX5_replays 16 = .ok (.iconst 0, 1) := by decide +kernel
theorem dX5_replays_17 : decode cX5_replays 17 = .ok (.invokevirtual 97, 3) := by decide +kernel
theorem dX5_replays_20 : decode cX5_replays 20 = .ok (.iinc 4 1, 3) := by decide +kernel
theorem dX5_replays_23 : decode cX5_replays 23 = .ok (.goto (-20), 3) := by decide +kernel
theorem dX5_replays_26 : decode cX5_replays 26 = .ok (.aload_n 0, 1) := by decide +kernel
theorem dX5_replays_27 : decode cX5_replays 27 = .ok (.bipush 11, 2) := by decide +kernel
theorem dX5_replays_29 : decode cX5_replays 29 = .ok (.iconst 0, 1) := by decide +kernel
theorem dX5_replays_30 : decode cX5_replays 30 = .ok (.bipush 60, 2) := by decide +kernel
theorem dX5_replays_32 : decode cX5_replays 32 = .ok (.invokevirtual 97, 3) := by decide +kernel
theorem dX5_replays_35 : decode cX5_replays 35 = .ok (.aload_n 0, 1) := by decide +kernel
theorem dX5_replays_36 : decode cX5_replays 36 = .ok (.bipush 11, 2) := by decide +kernel
theorem dX5_replays_38 : decode cX5_replays 38 = .ok (.iconst 1, 1) := by decide +kernel
theorem dX5_replays_39 : decode cX5_replays 39 = .ok (.aload_n 0, 1) := by decide +kernel
theorem dX5_replays_40 : decode cX5_replays 40 = .ok (.getfield 7, 3) := by decide +kernel
theorem dX5_replays_43 : decode cX5_replays 43 = .ok (.iconst 1, 1) := by decide +kernel
theorem dX5_replays_44 : decode cX5_replays 44 = .ok (.iaload, 1) := by decide +kernel
theorem dX5_replays_45 : decode cX5_replays 45 = .ok (.invokevirtual 97, 3) := by decide +kernel
theorem dX5_replays_48 : decode cX5_replays 48 = .ok (.aload_n 0, 1) := by decide +kernel
theorem dX5_replays_49 : decode cX5_replays 49 = .ok (.bipush 11, 2) := by decide +kernel
theorem dX5_replays_51 : decode cX5_replays 51 = .ok (.iconst 4, 1) := by decide +kernel
theorem dX5_replays_52 : decode cX5_replays 52 = .ok (.aload_n 0, 1) := by decide +kernel
theorem dX5_replays_53 : decode cX5_replays 53 = .ok (.getfield 7, 3) := by decide +kernel
theorem dX5_replays_56 : decode cX5_replays 56 = .ok (.iconst 4, 1) := by decide +kernel
theorem dX5_replays_57 : decode cX5_replays 57 = .ok (.iaload, 1) := by decide +kernel
theorem dX5_replays_58 : decode cX5_replays 58 = .ok (.invokevirtual 97, 3) := by decide +kernel
theorem dX5_replays_61 : decode cX5_replays 61 = .ok (.aload_n 0, 1) := by decide +kernel
theorem dX5_replays_62 : decode cX5_replays 62 = .ok (.bipush 11, 2) := by decide +kernel
theorem dX5_replays_64 : decode cX5_replays 64 = .ok (.bipush 7, 2) := by decide +kernel
theorem dX5_replays_66 : decode cX5_replays 66 = .ok (.iconst 1, 1) := by decide +kernel
theorem dX5_replays_67 : decode cX5_replays 67 = .ok (.invokevirtual 97, 3) := by decide +kernel
theorem dX5_replays_70 : decode cX5_replays 70 = .ok (.iconst 0, 1) := by decide +kernel
theorem dX5_replays_71 : decode cX5_replays 71 = .ok (.istore 4, 2) := by decide +kernel
theorem dX5_replays_73 : decode cX5_replays 73 = .ok (.iload 4, 2) := by decide +kernel
theorem dX5_replays_75 : decode cX5_replays 75 = .ok (.bipush 9, 2) := by decide +kernel
theorem dX5_replays_77 : decode cX5_replays 77 = .ok (.if_icmp .gt 34, 3) := by decide +kernel
theorem dX5_replays_80 : decode cX5_replays 80 = .ok (.aload_n 0, 1) := by decide +kernel
theorem dX5_replays_81 : decode cX5_replays 81 = .ok (.getfield 7, 3) := by decide +kernel
theorem dX5_replays_84 : decode cX5_replays 84 = .ok (.bipush 11, 2) := by decide +kernel
theorem dX5_replays_86 : decode cX5_replays 86 = .ok (.iconst 0, 1) := by decide +kernel
theorem dX5_replays_87 : decode cX5_replays 87 = .ok (.iload 4, 2) := by decide +kernel
theorem dX5_replays_89 : decode cX5_replays 89 = .ok (.invokestatic 40, 3) := by decide +kernel
theorem dX5_replays_92 : decode cX5_replays 92 = .ok (.aload_n 0, 1) := by decide +kernel
theorem dX5_replays_93 : decode cX5_replays 93 = .ok (.getfield 7, 3) := by decide +kernel
theorem dX5_replays_96 : decode cX5_replays 96 = .ok (.iconst 0, 1) := by decide +kernel
theorem dX5_replays_97 : decode cX5_replays 97 = .ok (.iload_n 1, 1) := by decide +kernel
theorem dX5_replays_98 : decode cX5_replays 98 = .ok (.iload 4, 2) := by decide +kernel
theorem dX5_replays_100 : decode cX5_replays 100 = .ok (.invokestatic 40, 3) := by decide +kernel
theorem dX5_replays_103 : decode cX5_replays 103 = .ok (.iaload, 1) := by decide +kernel
theorem dX5_replays_104 : decode cX5_replays 104 = .ok (.iastore, 1) := by decide +kernel
theorem dX5_replays_105 : decode cX5_replays 105 = .ok (.iinc 4 1, 3) := by decide +kernel
theorem dX5_replays_108 : decode cX5_replays 108 = .ok (.goto (-35), 3) := by decide +kernel
theorem dX5_replays_111 : decode cX5_replays 111 = .ok (.aload_n 0, 1) := by decide +kernel
theorem dX5_replays_112 : decode cX5_replays 112 = .ok (.getfield 7, 3) := by decide +kernel
theorem dX5_replays_115 : decode cX5_replays 115 = .ok (.bipush 11, 2) := by decide +kernel
theorem dX5_replays_117 : decode cX5_replays 117 = .ok (.iconst 0, 1) := by decide +kernel
theorem dX5_replays_118 : decode cX5_replays 118 = .ok (.iconst 3, 1) := by decide +kernel
theorem dX5_replays_119 : decode cX5_replays 119 = .ok (.invokestatic 40, 3) := by decide +kernel
theorem dX5_replays_122 : decode cX5_replays 122 = .ok (.iload_n 2, 1) := by decide +kernel
theorem dX5_replays_123 : decode cX5_replays 123 = .ok (.iastore, 1) := by decide +kernel
theorem dX5_replays_124 : decode cX5_replays 124 = .ok (.aload_n 0, 1) := by decide +kernel
theorem dX5_replays_125 : decode cX5_replays 125 = .ok (.getfield 7, 3) := by decide +kernel
theorem dX5_replays_128 : decode cX5_replays 128 = .ok (.bipush 11, 2) := by decide +kernel
theorem dX5_replays_130 : decode cX5_replays 130 = .ok (.iconst 0, 1) := by decide +kernel
theorem dX5_replays_131 : decode cX5_replays 131 = .ok (.iconst 4, 1) := by decide +kernel
theorem dX5_replays_132 : decode cX5_replays 132 = .ok (.invokestatic 40, 3) := by decide +kernel
theorem dX5_replays_135 : decode cX5_replays 135 = .ok (.iload_n 3, 1) := by decide +kernel
theorem dX5_replays_136 : decode cX5_replays 136 = .ok (.iastore, 1) := by decide +kernel
theorem dX5_replays_137 : decode cX5_replays 137 = .ok (.aload_n 0, 1) := by decide +kernel
theorem dX5_replays_138 : decode cX5_replays 138 = .ok (.getfield 7, 3) := by decide +kernel
theorem dX5_replays_141 : decode cX5_replays 141 = .ok (.bipush 11, 2) := by decide +kernel
theorem dX5_replays_143 : decode cX5_replays 143 = .ok (.iconst 0, 1) := by decide +kernel
theorem dX5_replays_144 : decode cX5_replays 144 = .ok (.bipush 10, 2) := by decide +kernel
theorem dX5_replays_146 : decode cX5_replays 146 = .ok (.invokestatic 40, 3) := by decide +kernel
theorem dX5_replays_149 : decode cX5_replays 149 = .ok (.aload_n 0, 1) := by decide +kernel
theorem dX5_replays_150 : decode cX5_replays 150 = .ok (.getfield 7, 3) := by decide +kernel
theorem dX5_replays_153 : decode cX5_replays 153 = .ok (.iconst 0, 1) := by decide +kernel
theorem dX5_replays_154 : decode cX5_replays 154 = .ok (.iload_n 1, 1) := by decide +kernel
theorem dX5_replays_155 : decode cX5_replays 155 = .ok (.iconst 0, 1) := by decide +kernel
theorem dX5_replays_156 : decode cX5_replays 156 = .ok (.invokestatic 40, 3) := by decide +kernel
theorem dX5_replays_159 : decode cX5_replays 159 = .ok (.iaload, 1) := by decide +kernel
theorem dX5_replays_160 : decode cX5_replays 160 = .ok (.iastore, 1) := by decide +kernel
theorem dX5_replays_161 : decode cX5_replays 161 = .ok (.iconst 0, 1) := by decide +kernel
theorem dX5_replays_162 : decode cX5_replays 162 = .ok (.istore 4, 2) := by decide +kernel
theorem dX5_replays_164 : decode cX5_replays 164 = .ok (.iload 4, 2) := by decide +kernel
theorem dX5_replays_166 : decode cX5_replays 166 = .ok (.aload_n 0, 1) := by decide +kernel
theorem dX5_replays_167 : decode cX5_replays 167 = .ok (.getfield 7, 3) := by decide +kernel
theorem dX5_replays_170 : decode cX5_replays 170 = .ok (.iconst 0, 1) := by decide +kernel
theorem dX5_replays_171 : decode cX5_replays 171 = .ok (.iload_n 1, 1) := by decide +kernel
theorem dX5_replays_172 : decode cX5_replays 172 = .ok (.bipush 9, 2) := by decide +kernel
theorem dX5_replays_174 : decode cX5_replays 174 = .ok (.invokestatic 40, 3) := by decide +kernel
theorem dX5_replays_177 : decode cX5_replays 177 = .ok (.iaload, 1) := by decide +kernel
theorem dX5_replays_178 : decode cX5_replays 178 = .ok (.if_icmp .ge 63, 3) := by decide +kernel
theorem dX5_replays_181 : decode cX5_replays 181 = .ok (.aload_n 0, 1) := by decide +kernel
theorem dX5_replays_182 : decode cX5_replays 182 = .ok (.getfield 7, 3) := by decide +kernel
theorem dX5_replays_185 : decode cX5_replays 185 = .ok (.bipush 11, 2) := by decide +kernel
theorem dX5_replays_187 : decode cX5_replays 187 = .ok (.iconst 0, 1) := by decide +kernel
theorem dX5_replays_188 : decode cX5_replays 188 = .ok (.iload 4, 2) := by decide +kernel
theorem dX5_replays_190 : decode cX5_replays 190 = .ok (.iconst 0, 1) := by decide +kernel
theorem dX5_replays_191 : decode cX5_replays 191 = .ok (.invokestatic 63, 3) := by decide +kernel
theorem dX5_replays_194 : decode cX5_replays 194 = .ok (.aload_n 0, 1) := by decide +kernel
theorem dX5_replays_195 : decode cX5_replays 195 = .ok (.getfield 7, 3) := by decide +kernel
theorem dX5_replays_198 : decode cX5_replays 198 = .ok (.iconst 0, 1) := by decide +kernel
theorem dX5_replays_199 : decode cX5_replays 199 = .ok (.iload_n 1, 1) := by decide +kernel
theorem dX5_replays_200 : decode cX5_replays 200 = .ok (.iload 4, 2) := by decide +kernel
theorem dX5_replays_202 : decode cX5_replays 202 = .ok (.iconst 0, 1) := by decide +kernel
theorem dX5_replays_203 : decode cX5_replays 203 = .ok (.invokestatic 63, 3) := by decide +kernel
theorem dX5_replays_206 : decode cX5_replays 206 = .ok (.iaload, 1) := by decide +kernel
theorem dX5_replays_207 : decode cX5_replays 207 = .ok (.iastore, 1) := by decide +kernel
theorem dX5_replays_208 : decode cX5_replays 208 = .ok (.aload_n 0, 1) := by decide +kernel
theorem dX5_replays_209 : decode cX5_replays 209 = .ok (.getfield 7, 3) := by decide +kernel
theorem dX5_replays_212 : decode cX5_replays 212 = .ok (.bipush 11, 2) := by decide +kernel
theorem dX5_replays_214 : decode cX5_replays 214 = .ok (.iconst 0, 1) := by decide +kernel
theorem dX5_replays_215 : decode cX5_replays 215 = .ok (.iload 4, 2) := by decide +kernel
theorem dX5_replays_217 : decode cX5_replays 217 = .ok (.iconst 1, 1) := by decide +kernel
theorem dX5_replays_218 : decode cX5_replays 218 = .ok (.invokestatic 63, 3) := by decide +kernel
theorem dX5_replays_221 : decode cX5_replays 221 = .ok (.aload_n 0, 1) := by decide +kernel
theorem dX5_replays_222 : decode cX5_replays 222 = .ok (.getfield 7, 3) := by decide +kernel
theorem dX5_replays_225 : decode cX5_replays 225 = .ok (.iconst 0, 1) := by decide +kernel
theorem dX5_replays_226 : decode cX5_replays 226 = .ok (.iload_n 1, 1) := by decide +kernel
theorem dX5_replays_227 : decode cX5_replays 227 = .ok (.iload 4, 2) := by decide +kernel
theorem dX5_replays_229 : decode cX5_replays 229 = .ok (.iconst 1, 1) := by decide +kernel
theorem dX5_replays_230 : decode cX5_replays 230 = .ok (.invokestatic 63, 3) := by decide +kernel
theorem dX5_replays_233 : decode cX5_replays 233 = .ok (.iaload, 1) := by decide +kernel
theorem dX5_replays_234 : decode cX5_replays 234 = .ok (.iastore, 1) := by decide +kernel
theorem dX5_replays_235 : decode cX5_replays 235 = .ok (.iinc 4 1, 3) := by decide +kernel
theorem dX5_replays_238 : decode cX5_replays 238 = .ok (.goto (-74), 3) := by decide +kernel
theorem dX5_replays_241 : decode cX5_replays 241 = .ok (.aload_n 0, 1) := by decide +kernel
theorem dX5_replays_242 : decode cX5_replays 242 = .ok (.iconst 0, 1) := by decide +kernel
theorem dX5_replays_243 : decode cX5_replays 243 = .ok (.invokevirtual 59, 3) := by decide +kernel
theorem dX5_replays_246 : decode cX5_replays 246 = .ok (.iconst 1, 1) := by decide +kernel
theorem dX5_replays_247 : decode cX5_replays 247 = .ok (.isub, 1) := by decide +kernel
theorem dX5_replays_248 : decode cX5_replays 248 = .ok (.istore 4, 2) := by decide +kernel
theorem dX5_replays_250 : decode cX5_replays 250 = .ok (.iload 4, 2) := by decide +kernel
theorem dX5_replays_252 : decode cX5_replays 252 = .ok (.ifCond .lt 71, 3) := by decide +kernel
theorem dX5_replays_255 : decode cX5_replays 255 = .ok (.iconst 0, 1) := by decide +kernel
theorem dX5_replays_256 : decode cX5_replays 256 = .ok (.istore 5, 2) := by decide +kernel
theorem dX5_replays_258 : decode cX5_replays 258 = .ok (.iload 5, 2) := by decide +kernel
theorem dX5_replays_260 : decode cX5_replays 260 = .ok (.aload_n 0, 1) := by decide +kernel
theorem dX5_replays_261 : decode cX5_replays 261 = .ok (.getfield 7, 3) := by decide +kernel
theorem dX5_replays_264 : decode cX5_replays 264 = .ok (.iconst 0, 1) := by decide +kernel
theorem dX5_replays_265 : decode cX5_replays 265 = .ok (.iload_n 1, 1) := by decide +kernel
theorem dX5_replays_266 : decode cX5_replays 266 = .ok (.bipush 9, 2) := by decide +kernel
theorem dX5_replays_268 : decode cX5_replays 268 = .ok (.invokestatic 40, 3) := by decide +kernel
theorem dX5_replays_271 : decode cX5_replays 271 = .ok (.iaload, 1) := by decide +kernel
theorem dX5_replays_272 : decode cX5_replays 272 = .ok (.if_icmp .ge 39, 3) := by decide +kernel
theorem dX5_replays_275 : decode cX5_replays 275 = .ok (.aload_n 0, 1) := by decide +kernel
theorem dX5_replays_276 : decode cX5_replays 276 = .ok (.getfield 7, 3) := by decide +kernel
theorem dX5_replays_279 : decode cX5_replays 279 = .ok (.bipush 11, 2) := by decide +kernel
theorem dX5_replays_281 : decode cX5_replays 281 = .ok (.iconst 0, 1) := by decide +kernel
theorem dX5_replays_282 : decode cX5_replays 282 = .ok (.iload 5, 2) := by decide +kernel
theorem dX5_replays_284 : decode cX5_replays 284 = .ok (.iconst 2, 1) := by decide +kernel
theorem dX5_replays_285 : decode cX5_replays 285 = .ok (.invokestatic 63, 3) := by decide +kernel
theorem dX5_replays_288 : decode cX5_replays 288 = .ok (.aload_n 0, 1) := by decide +kernel
theorem dX5_replays_289 : decode cX5_replays 289 = .ok (.getfield 7, 3) := by decide +kernel
theorem dX5_replays_292 : decode cX5_replays 292 = .ok (.iconst 0, 1) := by decide +kernel
theorem dX5_replays_293 : decode cX5_replays 293 = .ok (.iload_n 1, 1) := by decide +kernel
theorem dX5_replays_294 : decode cX5_replays 294 = .ok (.iload 5, 2) := by decide +kernel
theorem dX5_replays_296 : decode cX5_replays 296 = .ok (.iconst 3, 1) := by decide +kernel
theorem dX5_replays_297 : decode cX5_replays 297 = .ok (.iload 4, 2) := by decide +kernel
theorem dX5_replays_299 : decode cX5_replays 299 = .ok (.iadd, 1) := by decide +kernel
theorem dX5_replays_300 : decode cX5_replays 300 = .ok (.invokestatic 63, 3) := by decide +kernel
theorem dX5_replays_303 : decode cX5_replays 303 = .ok (.iaload, 1) := by decide +kernel
theorem dX5_replays_304 : decode cX5_replays 304 = .ok (.iastore, 1) := by decide +kernel
theorem dX5_replays_305 : decode cX5_replays 305 = .ok (.iinc 5 1, 3) := by decide +kernel
theorem dX5_replays_308 : decode cX5_replays 308 = .ok (.goto (-50), 3) := by decide +kernel
theorem dX5_replays_311 : decode cX5_replays 311 = .ok (.aload_n 0, 1) := by decide +kernel
theorem dX5_replays_312 : decode cX5_replays 312 = .ok (.bipush 11, 2) := by decide +kernel
theorem dX5_replays_314 : decode cX5_replays 314 = .ok (.invokevirtual 218, 3) := by decide +kernel
theorem dX5_replays_317 : decode cX5_replays 317 = .ok (.iinc 4 (-1), 3) := by decide +kernel
theorem dX5_replays_320 : decode cX5_replays 320 = .ok (.goto (-70), 3) := by decide +kernel
theorem dX5_replays_323 : decode cX5_replays 323 = .ok (.return_, 1) := by decide +kernel
theorem dX5_replay_0 : decode cX5_replay 0 = .ok (.aload_n 0, 1) := by decide +kernel
theorem dX5_replay_1 : decode cX5_replay 1 = .ok (.iload_n 1, 1) := by decide +kernel
theorem dX5_replay_2 : decode cX5_replay 2 = .ok (.invokevirtual 48, 3) := by decide +kernel
theorem dX5_replay_5 : decode cX5_replay 5 = .ok (.ifCond .ne 6, 3) := by decide +kernel
theorem dX5_replay_8 : decode cX5_replay 8 = .ok (.ldc 203, 2) := by decide +kernel
theorem dX5_replay_10 : decode cX5_replay 10 = .ok (.ireturn, 1) := by decide +kernel
theorem dX5_replay_11 : decode cX5_replay 11 = .ok (.iload_n 2, 1) := by decide +kernel
theorem dX5_replay_12 : decode cX5_replay 12 = .ok (.i2l, 1) := by decide +kernel
theorem dX5_replay_13 : decode cX5_replay 13 = .ok (.lconst 1, 1) := by decide +kernel
theorem dX5_replay_14 : decode cX5_replay 14 = .ok (.ldc2_w 231, 3) := by decide +kernel
theorem dX5_replay_17 : decode cX5_replay 17 = .ok (.invokestatic 44, 3) := by decide +kernel
theorem dX5_replay_20 : decode cX5_replay 20 = .ok (.ifCond .eq 28, 3) := by decide +kernel
theorem dX5_replay_23 : decode cX5_replay 23 = .ok (.iload_n 3, 1) := by decide +kernel
theorem dX5_replay_24 : decode cX5_replay 24 = .ok (.i2l, 1) := by decide +kernel
theorem dX5_replay_25 : decode cX5_replay 25 = .ok (.lconst 1, 1) := by decide +kernel
theorem dX5_replay_26 : decode cX5_replay 26 = .ok (.ldc2_w 231, 3) := by decide +kernel
theorem dX5_replay_29 : decode cX5_replay 29 = .ok (.invokestatic 44, 3) := by decide +kernel
theorem dX5_replay_32 : decode cX5_replay 32 = .ok (.ifCond .eq 16, 3) := by decide +kernel
theorem dX5_replay_35 : decode cX5_replay 35 = .ok (.iload 4, 2) := by decide +kernel
theorem dX5_replay_37 : decode cX5_replay 37 = .ok (.i2l, 1) := by decide +kernel
theorem dX5_replay_38 : decode cX5_replay 38 = .ok (.lconst 0, 1) := by decide +kernel
theorem dX5_replay_39 : decode cX5_replay 39 = .ok (.ldc2_w 224, 3) := by decide +kernel
theorem dX5_replay_42 : decode cX5_replay 42 = .ok (.invokestatic 44, 3) := by decide +kernel
theorem dX5_replay_45 : decode cX5_replay 45 = .ok (.ifCond .ne 6, 3) := by decide +kernel
theorem dX5_replay_48 : decode cX5_replay 48 = .ok (.ldc 123, 2) := by decide +kernel
theorem dX5_replay_50 : decode cX5_replay 50 = .ok (.ireturn, 1) := by decide +kernel
theorem dX5_replay_51 : decode cX5_replay 51 = .ok (.aload_n 0, 1) := by decide +kernel
theorem dX5_replay_52 : decode cX5_replay 52 = .ok (.iload_n 1, 1) := by decide +kernel
theorem dX5_replay_53 : decode cX5_replay 53 = .ok (.iload_n 2, 1) := by decide +kernel
theorem dX5_replay_54 : decode cX5_replay 54 = .ok (.iload_n 3, 1) := by decide +kernel
theorem dX5_replay_55 : decode cX5_replay 55 = .ok (.invokevirtual 253, 3) := by decide +kernel
theorem dX5_replay_58 : decode cX5_replay 58 = .ok (.aload_n 0, 1) := by decide +kernel
theorem dX5_replay_59 : decode cX5_replay 59 = .ok (.getfield 7, 3) := by decide +kernel
theorem dX5_replay_62 : decode cX5_replay 62 = .ok (.bipush 11, 2) := by decide +kernel
theorem dX5_replay_64 : decode cX5_replay 64 = .ok (.iconst 0, 1) := by decide +kernel
theorem dX5_replay_65 : decode cX5_replay 65 = .ok (.bipush 32, 2) := by decide +kernel
theorem dX5_replay_67 : decode cX5_replay 67 = .ok (.iload 4, 2) := by decide +kernel
theorem dX5_replay_69 : decode cX5_replay 69 = .ok (.iadd, 1) := by decide +kernel
theorem dX5_replay_70 : decode cX5_replay 70 = .ok (.invokestatic 40, 3) := by decide +kernel
theorem dX5_replay_73 : decode cX5_replay 73 = .ok (.iaload, 1) := by decide +kernel
theorem dX5_replay_74 : decode cX5_replay 74 = .ok (.ireturn, 1) := by decide +kernel
theorem dX5_best_0 : decode cX5_best 0 = .ok (.aload_n 0, 1) := by decide +kernel
theorem dX5_best_1 : decode cX5_best 1 = .ok (.iload_n 1, 1) := by decide +kernel
theorem dX5_best_2 : decode cX5_best 2 = .ok (.invokevirtual 48, 3) := by decide +kernel
theorem dX5_best_5 : decode cX5_best 5 = .ok (.ifCond .ne 6, 3) := by decide +kernel
theorem dX5_best_8 : decode cX5_best 8 = .ok (.ldc 203, 2) := by decide +kernel
theorem dX5_best_10 : decode cX5_best 10 = .ok (.ireturn, 1) := by decide +kernel
theorem dX5_best_11 : decode cX5_best 11 = .ok (.iconst 0, 1) := by decide +kernel
theorem dX5_best_12 : decode cX5_best 12 = .ok (.istore_n 2, 1) := by decide +kernel
theorem dX5_best_13 : decode cX5_best 13 = .ok (.iconst (-1), 1) := by decide +kernel
theorem dX5_best_14 : decode cX5_best 14 = .ok (.istore_n 3, 1) := by decide +kernel
theorem dX5_best_15 : decode cX5_best 15 = .ok (.iconst 0, 1) := by decide +kernel
theorem dX5_best_16 : decode cX5_best 16 = .ok (.istore 4, 2) := by decide +kernel
theorem dX5_best_18 : decode cX5_best 18 = .ok (.iload 4, 2) := by decide +kernel
theorem dX5_best_20 : decode cX5_best 20 = .ok (.bipush 36, 2) := by decide +kernel
theorem dX5_best_22 : decode cX5_best 22 = .ok (.if_icmp .ge 108, 3) := by decide +kernel
theorem dX5_best_25 : decode cX5_best 25 = .ok (.aload_n 0, 1) := by decide +kernel
theorem dX5_best_26 : decode cX5_best 26 = .ok (.iload_n 1, 1) := by decide +kernel
theorem dX5_best_27 : decode cX5_best 27 = .ok (.iconst 1, 1) := by decide +kernel
theorem dX5_best_28 : decode cX5_best 28 = .ok (.iload 4, 2) := by decide +kernel
theorem dX5_best_30 : decode cX5_best 30 = .ok (.bipush 6, 2) := by decide +kernel
theorem dX5_best_32 : decode cX5_best 32 = .ok (.idiv, 1) := by decide +kernel
theorem dX5_best_33 : decode cX5_best 33 = .ok (.iadd, 1) := by decide +kernel
theorem dX5_best_34 : decode cX5_best 34 = .ok (.iconst 1, 1) := by decide +kernel
theorem dX5_best_35 : decode cX5_best 35 = .ok (.iload 4, 2) := by decide +kernel
theorem dX5_best_37 : decode cX5_best 37 = .ok (.bipush 6, 2) := by decide +kernel
theorem dX5_best_39 : decode cX5_best 39 = .ok (.irem, 1) := by decide +kernel
theorem dX5_best_40 : decode cX5_best 40 = .ok (.iadd, 1) := by decide +kernel
theorem dX5_best_41 : decode cX5_best 41 = .ok (.invokevirtual 253, 3) := by decide +kernel
theorem dX5_best_44 : decode cX5_best 44 = .ok (.aload_n 0, 1) := by decide +kernel
theorem dX5_best_45 : decode cX5_best 45 = .ok (.getfield 7, 3) := by decide +kernel
theorem dX5_best_48 : decode cX5_best 48 = .ok (.bipush 11, 2) := by decide +kernel
theorem dX5_best_50 : decode cX5_best 50 = .ok (.iconst 0, 1) := by decide +kernel
theorem dX5_best_51 : decode cX5_best 51 = .ok (.bipush 32, 2) := by decide +kernel
theorem dX5_best_53 : decode cX5_best 53 = .ok (.invokestatic 40, 3) := by decide +kernel
theorem dX5_best_56 : decode cX5_best 56 = .ok (.iaload, 1) := by decide +kernel
theorem dX5_best_57 : decode cX5_best 57 = .ok (.iconst 5, 1) := by decide +kernel
theorem dX5_best_58 : decode cX5_best 58 = .ok (.aload_n 0, 1) := by decide +kernel
theorem dX5_best_59 : decode cX5_best 59 = .ok (.getfield 7, 3) := by decide +kernel
theorem dX5_best_62 : decode cX5_best 62 = .ok (.bipush 11, 2) := by decide +kernel
theorem dX5_best_64 : decode cX5_best 64 = .ok (.iconst 0, 1) := by decide +kernel
theorem dX5_best_65 : decode cX5_best 65 = .ok (.bipush 33, 2) := by decide +kernel
theorem dX5_best_67 : decode cX5_best 67 = .ok (.invokestatic 40, 3) := by decide +kernel
theorem dX5_best_70 : decode cX5_best 70 = .ok (.iaload, 1) := by decide +kernel
theorem dX5_best_71 : decode cX5_best 71 = .ok (.imul, 1) := by decide +kernel
theorem dX5_best_72 : decode cX5_best 72 = .ok (.iadd, 1) := by decide +kernel
theorem dX5_best_73 : decode cX5_best 73 = .ok (.iconst 3, 1) := by decide +kernel
theorem dX5_best_74 : decode cX5_best 74 = .ok (.aload_n 0, 1) := by decide +kernel
theorem dX5_best_75 : decode cX5_best 75 = .ok (.getfield 7, 3) := by decide +kernel
theorem dX5_best_78 : decode cX5_best 78 = .ok (.bipush 11, 2) := by decide +kernel
theorem dX5_best_80 : decode cX5_best 80 = .ok (.iconst 0, 1) := by decide +kernel
theorem dX5_best_81 : decode cX5_best 81 = .ok (.bipush 34, 2) := by decide +kernel
theorem dX5_best_83 : decode cX5_best 83 = .ok (.invokestatic 40, 3) := by decide +kernel
theorem dX5_best_86 : decode cX5_best 86 = .ok (.iaload, 1) := by decide +kernel
theorem dX5_best_87 : decode cX5_best 87 = .ok (.imul, 1) := by decide +kernel
theorem dX5_best_88 : decode cX5_best 88 = .ok (.iadd, 1) := by decide +kernel
theorem dX5_best_89 : decode cX5_best 89 = .ok (.istore 5, 2) := by decide +kernel
theorem dX5_best_91 : decode cX5_best 91 = .ok (.iload_n 3, 1) := by decide +kernel
theorem dX5_best_92 : decode cX5_best 92 = .ok (.iconst (-1), 1) := by decide +kernel
theorem dX5_best_93 : decode cX5_best 93 = .ok (.if_icmp .eq 9, 3) := by decide +kernel
theorem dX5_best_96 : decode cX5_best 96 = .ok (.iload 5, 2) := by decide +kernel
theorem dX5_best_98 : decode cX5_best 98 = .ok (.iload_n 2, 1) := by decide +kernel
theorem dX5_best_99 : decode cX5_best 99 = .ok (.if_icmp .ge 25, 3) := by decide +kernel
theorem dX5_best_102 : decode cX5_best 102 = .ok (.iload 5, 2) := by decide +kernel
theorem dX5_best_104 : decode cX5_best 104 = .ok (.istore_n 2, 1) := by decide +kernel
theorem dX5_best_105 : decode cX5_best 105 = .ok (.bipush 10, 2) := by decide +kernel
theorem dX5_best_107 : decode cX5_best 107 = .ok (.iconst 1, 1) := by decide +kernel
theorem dX5_best_108 : decode cX5_best 108 = .ok (.iload 4, 2) := by decide +kernel
theorem dX5_best_110 : decode cX5_best 110 = .ok (.bipush 6, 2) := by decide +kernel
theorem dX5_best_112 : decode cX5_best 112 = .ok (.idiv, 1) := by decide +kernel
theorem dX5_best_113 : decode cX5_best 113 = .ok (.iadd, 1) := by decide +kernel
theorem dX5_best_114 : decode cX5_best 114 = .ok (.imul, 1) := by decide +kernel
theorem dX5_best_115 : decode cX5_best 115 = .ok (.iconst 1, 1) := by decide +kernel
theorem dX5_best_116 : decode cX5_best 116 = .ok (.iadd, 1) := by decide +kernel
theorem dX5_best_117 : decode cX5_best 117 = .ok (.iload 4, 2) := by decide +kernel
theorem dX5_best_119 : decode cX5_best 119 = .ok (.bipush 6, 2) := by decide +kernel
theorem dX5_best_121 : decode cX5_best 121 = .ok (.irem, 1) := by decide +kernel
theorem dX5_best_122 : decode cX5_best 122 = .ok (.iadd, 1) := by decide +kernel
theorem dX5_best_123 : decode cX5_best 123 = .ok (.istore_n 3, 1) := by decide +kernel
theorem dX5_best_124 : decode cX5_best 124 = .ok (.iinc 4 1, 3) := by decide +kernel
theorem dX5_best_127 : decode cX5_best 127 = .ok (.goto (-109), 3) := by decide +kernel
theorem dX5_best_130 : decode cX5_best 130 = .ok (.iload_n 3, 1) := by decide +kernel
theorem dX5_best_131 : decode cX5_best 131 = .ok (.ireturn, 1) := by decide +kernel
