theorem dX0_init_0 : decode cX0_init 0 = .ok (.aload_n 0, 1) := by decide +kernel
theorem dX0_init_1 : decode cX0_init 1 = .ok (.invokespecial 3, 3) := by decide +kernel
theorem dX0_init_4 : decode cX0_init 4 = .ok (.aload_n 0, 1) := by decide +kernel
theorem dX0_init_5 : decode cX0_init 5 = .ok (.iconst 5, 1) := by decide +kernel
theorem dX0_init_6 : decode cX0_init 6 = .ok (.newarray .int, 2) := by decide +kernel
theorem dX0_init_8 : decode cX0_init 8 = .ok (.putfield 9, 3) := by decide +kernel
theorem dX0_init_11 : decode cX0_init 11 = .ok (.aload_n 0, 1) := by decide +kernel
theorem dX0_init_12 : decode cX0_init 12 = .ok (.iconst 4, 1) := by decide +kernel
theorem dX0_init_13 : decode cX0_init 13 = .ok (.anewarray 15, 3) := by decide +kernel
theorem dX0_init_16 : decode cX0_init 16 = .ok (.putfield 17, 3) := by decide +kernel
theorem dX0_init_19 : decode cX0_init 19 = .ok (.aload_n 0, 1) := by decide +kernel
theorem dX0_init_20 : decode cX0_init 20 = .ok (.iconst 0, 1) := by decide +kernel
theorem dX0_init_21 : decode cX0_init 21 = .ok (.putfield 21, 3) := by decide +kernel
theorem dX0_init_24 : decode cX0_init 24 = .ok (.aload_n 0, 1) := by decide +kernel
theorem dX0_init_25 : decode cX0_init 25 = .ok (.iconst 0, 1) := by decide +kernel
theorem dX0_init_26 : decode cX0_init 26 = .ok (.putfield 25, 3) := by decide +kernel
theorem dX0_init_29 : decode cX0_init 29 = .ok (.aload_n 0, 1) := by decide +kernel
theorem dX0_init_30 : decode cX0_init 30 = .ok (.iconst 0, 1) := by decide +kernel
theorem dX0_init_31 : decode cX0_init 31 = .ok (.putfield 28, 3) := by decide +kernel
theorem dX0_init_34 : decode cX0_init 34 = .ok (.iconst 0, 1) := by decide +kernel
theorem dX0_init_35 : decode cX0_init 35 = .ok (.istore_n 1, 1) := by decide +kernel
theorem dX0_init_36 : decode cX0_init 36 = .ok (.iload_n 1, 1) := by decide +kernel
theorem dX0_init_37 : decode cX0_init 37 = .ok (.iconst 4, 1) := by decide +kernel
theorem dX0_init_38 : decode cX0_init 38 = .ok (.if_icmp .ge 22, 3) := by decide +kernel
theorem dX0_init_41 : decode cX0_init 41 = .ok (.aload_n 0, 1) := by decide +kernel
theorem dX0_init_42 : decode cX0_init 42 = .ok (.getfield 17, 3) := by decide +kernel
theorem dX0_init_45 : decode cX0_init 45 = .ok (.iload_n 1, 1) := by decide +kernel
theorem dX0_init_46 : decode cX0_init 46 = .ok (.new 15, 3) := by decide +kernel
theorem dX0_init_49 : decode cX0_init 49 = .ok (.dup, 1) := by decide +kernel
theorem dX0_init_50 : decode cX0_init 50 = .ok (.invokespecial 31, 3) := by decide +kernel
theorem dX0_init_53 : decode cX0_init 53 = .ok (.aastore, 1) := by decide +kernel
theorem dX0_init_54 : decode cX0_init 54 = .ok (.iinc 1 1, 3) := by decide +kernel
theorem dX0_init_57 : decode cX0_init 57 = .ok (.goto (-21), 3) := by decide +kernel
theorem dX0_init_60 : decode cX0_init 60 = .ok (.return_, 1) := by decide +kernel
theorem dX0_begin_0 : decode cX0_begin 0 = .ok (.aload_n 0, 1) := by decide +kernel
theorem dX0_begin_1 : decode cX0_begin 1 = .ok (.iconst 0, 1) := by decide +kernel
theorem dX0_begin_2 : decode cX0_begin 2 = .ok (.putfield 28, 3) := by decide +kernel
theorem dX0_begin_5 : decode cX0_begin 5 = .ok (.aload_n 0, 1) := by decide +kernel
theorem dX0_begin_6 : decode cX0_begin 6 = .ok (.aload_n 0, 1) := by decide +kernel
theorem dX0_begin_7 : decode cX0_begin 7 = .ok (.getfield 9, 3) := by decide +kernel
theorem dX0_begin_10 : decode cX0_begin 10 = .ok (.iconst 2, 1) := by decide +kernel
theorem dX0_begin_11 : decode cX0_begin 11 = .ok (.iaload, 1) := by decide +kernel
theorem dX0_begin_12 : decode cX0_begin 12 = .ok (.putfield 25, 3) := by decide +kernel
theorem dX0_begin_15 : decode cX0_begin 15 = .ok (.iconst 0, 1) := by decide +kernel
theorem dX0_begin_16 : decode cX0_begin 16 = .ok (.istore_n 1, 1) := by decide +kernel
theorem dX0_begin_17 : decode cX0_begin 17 = .ok (.iload_n 1, 1) := by decide +kernel
theorem dX0_begin_18 : decode cX0_begin 18 = .ok (.aload_n 0, 1) := by decide +kernel
theorem dX0_begin_19 : decode cX0_begin 19 = .ok (.getfield 21, 3) := by decide +kernel
theorem dX0_begin_22 : decode cX0_begin 22 = .ok (.if_icmp .ge 18, 3) := by decide +kernel
theorem dX0_begin_25 : decode cX0_begin 25 = .ok (.aload_n 0, 1) := by decide +kernel
theorem dX0_begin_26 : decode cX0_begin 26 = .ok (.getfield 17, 3) := by decide +kernel
theorem dX0_begin_29 : decode cX0_begin 29 = .ok (.iload_n 1, 1) := by decide +kernel
theorem dX0_begin_30 : decode cX0_begin 30 = .ok (.aaload, 1) := by decide +kernel
theorem dX0_begin_31 : decode cX0_begin 31 = .ok (.invokevirtual 32, 3) := by decide +kernel
theorem dX0_begin_34 : decode cX0_begin 34 = .ok (.iinc 1 1, 3) := by decide +kernel
theorem dX0_begin_37 : decode cX0_begin 37 = .ok (.goto (-20), 3) := by decide +kernel
theorem dX0_begin_40 : decode cX0_begin 40 = .ok (.return_, 1) := by decide +kernel
theorem dX0_copyFrom_0 : decode cX0_copyFrom 0 = .ok (.aload_n 1, 1) := by decide +kernel
theorem dX0_copyFrom_1 : decode cX0_copyFrom 1 = .ok (.getfield 9, 3) := by decide +kernel
theorem dX0_copyFrom_4 : decode cX0_copyFrom 4 = .ok (.iconst 0, 1) := by decide +kernel
theorem dX0_copyFrom_5 : decode cX0_copyFrom 5 = .ok (.aload_n 0, 1) := by decide +kernel
theorem dX0_copyFrom_6 : decode cX0_copyFrom 6 = .ok (.getfield 9, 3) := by decide +kernel
theorem dX0_copyFrom_9 : decode cX0_copyFrom 9 = .ok (.iconst 0, 1) := by decide +kernel
theorem dX0_copyFrom_10 : decode cX0_copyFrom 10 = .ok (.iconst 5, 1) := by decide +kernel
theorem dX0_copyFrom_11 : decode cX0_copyFrom 11 = .ok (.invokestatic 35, 3) := by decide +kernel
theorem dX0_copyFrom_14 : decode cX0_copyFrom 14 = .ok (.aload_n 0, 1) := by decide +kernel
theorem dX0_copyFrom_15 : decode cX0_copyFrom 15 = .ok (.aload_n 1, 1) := by decide +kernel
theorem dX0_copyFrom_16 : decode cX0_copyFrom 16 = .ok (.getfield 21, 3) := by decide +kernel
theorem dX0_copyFrom_19 : decode cX0_copyFrom 19 = .ok (.putfield 21, 3) := by decide +kernel
theorem dX0_copyFrom_22 : decode cX0_copyFrom 22 = .ok (.aload_n 0, 1) := by decide +kernel
theorem dX0_copyFrom_23 : decode cX0_copyFrom 23 = .ok (.aload_n 1, 1) := by decide +kernel
theorem dX0_copyFrom_24 : decode cX0_copyFrom 24 = .ok (.getfield 25, 3) := by decide +kernel
theorem dX0_copyFrom_27 : decode cX0_copyFrom 27 = .ok (.putfield 25, 3) := by decide +kernel
theorem dX0_copyFrom_30 : decode cX0_copyFrom 30 = .ok (.aload_n 0, 1) := by decide +kernel
theorem dX0_copyFrom_31 : decode cX0_copyFrom 31 = .ok (.aload_n 1, 1) := by decide +kernel
theorem dX0_copyFrom_32 : decode cX0_copyFrom 32 = .ok (.getfield 28, 3) := by decide +kernel
theorem dX0_copyFrom_35 : decode cX0_copyFrom 35 = .ok (.putfield 28, 3) := by decide +kernel
theorem dX0_copyFrom_38 : decode cX0_copyFrom 38 = .ok (.iconst 0, 1) := by decide +kernel
theorem dX0_copyFrom_39 : decode cX0_copyFrom 39 = .ok (.istore_n 2, 1) := by decide +kernel
theorem dX0_copyFrom_40 : decode cX0_copyFrom 40 = .ok (.iload_n 2, 1) := by decide +kernel
theorem dX0_copyFrom_41 : decode cX0_copyFrom 41 = .ok (.aload_n 0, 1) := by decide +kernel
theorem dX0_copyFrom_42 : decode cX0_copyFrom 42 = .ok (.getfield 21, 3) := by decide +kernel
theorem dX0_copyFrom_45 : decode cX0_copyFrom 45 = .ok (.if_icmp .ge 24, 3) := by decide +kernel
theorem dX0_copyFrom_48 : decode cX0_copyFrom 48 = .ok (.aload_n 0, 1) := by decide +kernel
theorem dX0_copyFrom_49 : decode cX0_copyFrom 49 = .ok (.getfield 17, 3) := by decide +kernel
theorem dX0_copyFrom_52 : decode cX0_copyFrom 52 = .ok (.iload_n 2, 1) := by decide +kernel
theorem dX0_copyFrom_53 : decode cX0_copyFrom 53 = .ok (.aaload, 1) := by decide +kernel
theorem dX0_copyFrom_54 : decode cX0_copyFrom 54 = .ok (.aload_n 1, 1) := by decide +kernel
theorem dX0_copyFrom_55 : decode cX0_copyFrom 55 = .ok (.getfield 17, 3) := by decide +kernel
theorem dX0_copyFrom_58 : decode cX0_copyFrom 58 = .ok (.iload_n 2, 1) := by decide +kernel
theorem dX0_copyFrom_59 : decode cX0_copyFrom 59 = .ok (.aaload, 1) := by decide +kernel
theorem dX0_copyFrom_60 : decode cX0_copyFrom 60 = .ok (.invokevirtual 41, 3) := by decide +kernel
theorem dX0_copyFrom_63 : decode cX0_copyFrom 63 = .ok (.iinc 2 1, 3) := by decide +kernel
theorem dX0_copyFrom_66 : decode cX0_copyFrom 66 = .ok (.goto (-26), 3) := by decide +kernel
theorem dX0_copyFrom_69 : decode cX0_copyFrom 69 = .ok (.return_, 1) := by decide +kernel
theorem dX0_standAlone_0 : decode cX0_standAlone 0 = .ok (.aload_n 1, 1) := by decide +kernel
theorem dX0_standAlone_1 : decode cX0_standAlone 1 = .ok (.getfield 9, 3) := by decide +kernel
theorem dX0_standAlone_4 : decode cX0_standAlone 4 = .ok (.iconst 0, 1) := by decide +kernel
theorem dX0_standAlone_5 : decode cX0_standAlone 5 = .ok (.aload_n 0, 1) := by decide +kernel
theorem dX0_standAlone_6 : decode cX0_standAlone 6 = .ok (.getfield 9, 3) := by decide +kernel
theorem dX0_standAlone_9 : decode cX0_standAlone 9 = .ok (.iconst 0, 1) := by decide +kernel
theorem dX0_standAlone_10 : decode cX0_standAlone 10 = .ok (.iconst 5, 1) := by decide +kernel
theorem dX0_standAlone_11 : decode cX0_standAlone 11 = .ok (.invokestatic 35, 3) := by decide +kernel
theorem dX0_standAlone_14 : decode cX0_standAlone 14 = .ok (.aload_n 0, 1) := by decide +kernel
theorem dX0_standAlone_15 : decode cX0_standAlone 15 = .ok (.getfield 9, 3) := by decide +kernel
theorem dX0_standAlone_18 : decode cX0_standAlone 18 = .ok (.iconst 0, 1) := by decide +kernel
theorem dX0_standAlone_19 : decode cX0_standAlone 19 = .ok (.bipush 60, 2) := by decide +kernel
theorem dX0_standAlone_21 : decode cX0_standAlone 21 = .ok (.iastore, 1) := by decide +kernel
theorem dX0_standAlone_22 : decode cX0_standAlone 22 = .ok (.aload_n 0, 1) := by decide +kernel
theorem dX0_standAlone_23 : decode cX0_standAlone 23 = .ok (.getfield 9, 3) := by decide +kernel
theorem dX0_standAlone_26 : decode cX0_standAlone 26 = .ok (.iconst 2, 1) := by decide +kernel
theorem dX0_standAlone_27 : decode cX0_standAlone 27 = .ok (.iconst 0, 1) := by decide +kernel
theorem dX0_standAlone_28 : decode cX0_standAlone 28 = .ok (.iastore, 1) := by decide +kernel
theorem dX0_standAlone_29 : decode cX0_standAlone 29 = .ok (.aload_n 0, 1) := by decide +kernel
theorem dX0_standAlone_30 : decode cX0_standAlone 30 = .ok (.iconst 1, 1) := by decide +kernel
theorem dX0_standAlone_31 : decode cX0_standAlone 31 = .ok (.putfield 21, 3) := by decide +kernel
theorem dX0_standAlone_34 : decode cX0_standAlone 34 = .ok (.aload_n 0, 1) := by decide +kernel
theorem dX0_standAlone_35 : decode cX0_standAlone 35 = .ok (.getfield 17, 3) := by decide +kernel
theorem dX0_standAlone_38 : decode cX0_standAlone 38 = .ok (.iconst 0, 1) := by decide +kernel
theorem dX0_standAlone_39 : decode cX0_standAlone 39 = .ok (.aaload, 1) := by decide +kernel
theorem dX0_standAlone_40 : decode cX0_standAlone 40 = .ok (.aload_n 2, 1) := by decide +kernel
theorem dX0_standAlone_41 : decode cX0_standAlone 41 = .ok (.invokevirtual 45, 3) := by decide +kernel
theorem dX0_standAlone_44 : decode cX0_standAlone 44 = .ok (.aload_n 0, 1) := by decide +kernel
theorem dX0_standAlone_45 : decode cX0_standAlone 45 = .ok (.invokevirtual 48, 3) := by decide +kernel
theorem dX0_standAlone_48 : decode cX0_standAlone 48 = .ok (.return_, 1) := by decide +kernel
theorem dX0_pastRounds_0 : decode cX0_pastRounds 0 = .ok (.aload_n 0, 1) := by decide +kernel
theorem dX0_pastRounds_1 : decode cX0_pastRounds 1 = .ok (.getfield 28, 3) := by decide +kernel
theorem dX0_pastRounds_4 : decode cX0_pastRounds 4 = .ok (.bipush 18, 2) := by decide +kernel
theorem dX0_pastRounds_6 : decode cX0_pastRounds 6 = .ok (.invokestatic 49, 3) := by decide +kernel
theorem dX0_pastRounds_9 : decode cX0_pastRounds 9 = .ok (.ireturn, 1) := by decide +kernel
theorem dX0_leasts_0 : decode cX0_leasts 0 = .ok (.iconst 0, 1) := by decide +kernel
theorem dX0_leasts_1 : decode cX0_leasts 1 = .ok (.istore_n 1, 1) := by decide +kernel
theorem dX0_leasts_2 : decode cX0_leasts 2 = .ok (.iconst 0, 1) := by decide +kernel
theorem dX0_leasts_3 : decode cX0_leasts 3 = .ok (.istore_n 2, 1) := by decide +kernel
theorem dX0_leasts_4 : decode cX0_leasts 4 = .ok (.iload_n 2, 1) := by decide +kernel
theorem dX0_leasts_5 : decode cX0_leasts 5 = .ok (.aload_n 0, 1) := by decide +kernel
theorem dX0_leasts_6 : decode cX0_leasts 6 = .ok (.getfield 21, 3) := by decide +kernel
theorem dX0_leasts_9 : decode cX0_leasts 9 = .ok (.if_icmp .ge 23, 3) := by decide +kernel
theorem dX0_leasts_12 : decode cX0_leasts 12 = .ok (.iload_n 1, 1) := by decide +kernel
theorem dX0_leasts_13 : decode cX0_leasts 13 = .ok (.aload_n 0, 1) := by decide +kernel
theorem dX0_leasts_14 : decode cX0_leasts 14 = .ok (.getfield 17, 3) := by decide +kernel
theorem dX0_leasts_17 : decode cX0_leasts 17 = .ok (.iload_n 2, 1) := by decide +kernel
theorem dX0_leasts_18 : decode cX0_leasts 18 = .ok (.aaload, 1) := by decide +kernel
theorem dX0_leasts_19 : decode cX0_leasts 19 = .ok (.getfield 55, 3) := by decide +kernel
theorem dX0_leasts_22 : decode cX0_leasts 22 = .ok (.iconst 0, 1) := by decide +kernel
theorem dX0_leasts_23 : decode cX0_leasts 23 = .ok (.iaload, 1) := by decide +kernel
theorem dX0_leasts_24 : decode cX0_leasts 24 = .ok (.iadd, 1) := by decide +kernel
theorem dX0_leasts_25 : decode cX0_leasts 25 = .ok (.istore_n 1, 1) := by decide +kernel
theorem dX0_leasts_26 : decode cX0_leasts 26 = .ok (.iinc 2 1, 3) := by decide +kernel
theorem dX0_leasts_29 : decode cX0_leasts 29 = .ok (.goto (-25), 3) := by decide +kernel
theorem dX0_leasts_32 : decode cX0_leasts 32 = .ok (.iload_n 1, 1) := by decide +kernel
theorem dX0_leasts_33 : decode cX0_leasts 33 = .ok (.ireturn, 1) := by decide +kernel
theorem dX0_servers_0 : decode cX0_servers 0 = .ok (.iconst 0, 1) := by decide +kernel
theorem dX0_servers_1 : decode cX0_servers 1 = .ok (.istore_n 1, 1) := by decide +kernel
theorem dX0_servers_2 : decode cX0_servers 2 = .ok (.iconst 0, 1) := by decide +kernel
theorem dX0_servers_3 : decode cX0_servers 3 = .ok (.istore_n 2, 1) := by decide +kernel
theorem dX0_servers_4 : decode cX0_servers 4 = .ok (.iload_n 2, 1) := by decide +kernel
theorem dX0_servers_5 : decode cX0_servers 5 = .ok (.aload_n 0, 1) := by decide +kernel
theorem dX0_servers_6 : decode cX0_servers 6 = .ok (.getfield 21, 3) := by decide +kernel
theorem dX0_servers_9 : decode cX0_servers 9 = .ok (.if_icmp .ge 21, 3) := by decide +kernel
theorem dX0_servers_12 : decode cX0_servers 12 = .ok (.iload_n 1, 1) := by decide +kernel
theorem dX0_servers_13 : decode cX0_servers 13 = .ok (.aload_n 0, 1) := by decide +kernel
theorem dX0_servers_14 : decode cX0_servers 14 = .ok (.getfield 17, 3) := by decide +kernel
theorem dX0_servers_17 : decode cX0_servers 17 = .ok (.iload_n 2, 1) := by decide +kernel
theorem dX0_servers_18 : decode cX0_servers 18 = .ok (.aaload, 1) := by decide +kernel
theorem dX0_servers_19 : decode cX0_servers 19 = .ok (.getfield 56, 3) := by decide +kernel
theorem dX0_servers_22 : decode cX0_servers 22 = .ok (.iadd, 1) := by decide +kernel
theorem dX0_servers_23 : decode cX0_servers 23 = .ok (.istore_n 1, 1) := by decide +kernel
theorem dX0_servers_24 : decode cX0_servers 24 = .ok (.iinc 2 1, 3) := by decide +kernel
theorem dX0_servers_27 : decode cX0_servers 27 = .ok (.goto (-23), 3) := by decide +kernel
theorem dX0_servers_30 : decode cX0_servers 30 = .ok (.iload_n 1, 1) := by decide +kernel
theorem dX0_servers_31 : decode cX0_servers 31 = .ok (.ireturn, 1) := by decide +kernel
theorem dX0_spentByAll_0 : decode cX0_spentByAll 0 = .ok (.iconst 0, 1) := by decide +kernel
theorem dX0_spentByAll_1 : decode cX0_spentByAll 1 = .ok (.istore_n 1, 1) := by decide +kernel
theorem dX0_spentByAll_2 : decode cX0_spentByAll 2 = .ok (.iconst 0, 1) := by decide +kernel
theorem dX0_spentByAll_3 : decode cX0_spentByAll 3 = .ok (.istore_n 2, 1) := by decide +kernel
theorem dX0_spentByAll_4 : decode cX0_spentByAll 4 = .ok (.iload_n 2, 1) := by decide +kernel
theorem dX0_spentByAll_5 : decode cX0_spentByAll 5 = .ok (.aload_n 0, 1) := by decide +kernel
theorem dX0_spentByAll_6 : decode cX0_spentByAll 6 = .ok (.getfield 21, 3) := by decide +kernel
theorem dX0_spentByAll_9 : decode cX0_spentByAll 9 = .ok (.if_icmp .ge 21, 3) := by decide +kernel
theorem dX0_spentByAll_12 : decode cX0_spentByAll 12 = .ok (.iload_n 1, 1) := by decide +kernel
theorem dX0_spentByAll_13 : decode cX0_spentByAll 13 = .ok (.aload_n 0, 1) := by decide +kernel
theorem dX0_spentByAll_14 : decode cX0_spentByAll 14 = .ok (.getfield 17, 3) := by decide +kernel
theorem dX0_spentByAll_17 : decode cX0_spentByAll 17 = .ok (.iload_n 2, 1) := by decide +kernel
theorem dX0_spentByAll_18 : decode cX0_spentByAll 18 = .ok (.aaload, 1) := by decide +kernel
theorem dX0_spentByAll_19 : decode cX0_spentByAll 19 = .ok (.getfield 59, 3) := by decide +kernel
theorem dX0_spentByAll_22 : decode cX0_spentByAll 22 = .ok (.iadd, 1) := by decide +kernel
theorem dX0_spentByAll_23 : decode cX0_spentByAll 23 = .ok (.istore_n 1, 1) := by decide +kernel
theorem dX0_spentByAll_24 : decode cX0_spentByAll 24 = .ok (.iinc 2 1, 3) := by decide +kernel
theorem dX0_spentByAll_27 : decode cX0_spentByAll 27 = .ok (.goto (-23), 3) := by decide +kernel
theorem dX0_spentByAll_30 : decode cX0_spentByAll 30 = .ok (.iload_n 1, 1) := by decide +kernel
theorem dX0_spentByAll_31 : decode cX0_spentByAll 31 = .ok (.ireturn, 1) := by decide +kernel
theorem dX0_lackOfAll_0 : decode cX0_lackOfAll 0 = .ok (.iconst 0, 1) := by decide +kernel
theorem dX0_lackOfAll_1 : decode cX0_lackOfAll 1 = .ok (.istore_n 1, 1) := by decide +kernel
theorem dX0_lackOfAll_2 : decode cX0_lackOfAll 2 = .ok (.iconst 0, 1) := by decide +kernel
theorem dX0_lackOfAll_3 : decode cX0_lackOfAll 3 = .ok (.istore_n 2, 1) := by decide +kernel
theorem dX0_lackOfAll_4 : decode cX0_lackOfAll 4 = .ok (.iload_n 2, 1) := by decide +kernel
theorem dX0_lackOfAll_5 : decode cX0_lackOfAll 5 = .ok (.aload_n 0, 1) := by decide +kernel
theorem dX0_lackOfAll_6 : decode cX0_lackOfAll 6 = .ok (.getfield 21, 3) := by decide +kernel
theorem dX0_lackOfAll_9 : decode cX0_lackOfAll 9 = .ok (.if_icmp .ge 21, 3) := by decide +kernel
theorem dX0_lackOfAll_12 : decode cX0_lackOfAll 12 = .ok (.iload_n 1, 1) := by decide +kernel
theorem dX0_lackOfAll_13 : decode cX0_lackOfAll 13 = .ok (.aload_n 0, 1) := by decide +kernel
theorem dX0_lackOfAll_14 : decode cX0_lackOfAll 14 = .ok (.getfield 17, 3) := by decide +kernel
theorem dX0_lackOfAll_17 : decode cX0_lackOfAll 17 = .ok (.iload_n 2, 1) := by decide +kernel
theorem dX0_lackOfAll_18 : decode cX0_lackOfAll 18 = .ok (.aaload, 1) := by decide +kernel
theorem dX0_lackOfAll_19 : decode cX0_lackOfAll 19 = .ok (.getfield 62, 3) := by decide +kernel
theorem dX0_lackOfAll_22 : decode cX0_lackOfAll 22 = .ok (.iadd, 1) := by decide +kernel
theorem dX0_lackOfAll_23 : decode cX0_lackOfAll 23 = .ok (.istore_n 1, 1) := by decide +kernel
theorem dX0_lackOfAll_24 : decode cX0_lackOfAll 24 = .ok (.iinc 2 1, 3) := by decide +kernel
theorem dX0_lackOfAll_27 : decode cX0_lackOfAll 27 = .ok (.goto (-23), 3) := by decide +kernel
theorem dX0_lackOfAll_30 : decode cX0_lackOfAll 30 = .ok (.iload_n 1, 1) := by decide +kernel
theorem dX0_lackOfAll_31 : decode cX0_lackOfAll 31 = .ok (.ireturn, 1) := by decide +kernel
theorem dX0_wantOf_0 : decode cX0_wantOf 0 = .ok (.aload_n 2, 1) := by decide +kernel
theorem dX0_wantOf_1 : decode cX0_wantOf 1 = .ok (.getfield 65, 3) := by decide +kernel
theorem dX0_wantOf_4 : decode cX0_wantOf 4 = .ok (.iconst 2, 1) := by decide +kernel
theorem dX0_wantOf_5 : decode cX0_wantOf 5 = .ok (.if_icmp .ne 26, 3) := by decide +kernel
theorem dX0_wantOf_8 : decode cX0_wantOf 8 = .ok (.aload_n 2, 1) := by decide +kernel
theorem dX0_wantOf_9 : decode cX0_wantOf 9 = .ok (.aload_n 0, 1) := by decide +kernel
theorem dX0_wantOf_10 : decode cX0_wantOf 10 = .ok (.getfield 28, 3) := by decide +kernel
theorem dX0_wantOf_13 : decode cX0_wantOf 13 = .ok (.aload_n 0, 1) := by decide +kernel
theorem dX0_wantOf_14 : decode cX0_wantOf 14 = .ok (.getfield 9, 3) := by decide +kernel
theorem dX0_wantOf_17 : decode cX0_wantOf 17 = .ok (.iconst 1, 1) := by decide +kernel
theorem dX0_wantOf_18 : decode cX0_wantOf 18 = .ok (.iaload, 1) := by decide +kernel
theorem dX0_wantOf_19 : decode cX0_wantOf 19 = .ok (.aload_n 0, 1) := by decide +kernel
theorem dX0_wantOf_20 : decode cX0_wantOf 20 = .ok (.getfield 9, 3) := by decide +kernel
theorem dX0_wantOf_23 : decode cX0_wantOf 23 = .ok (.iconst 4, 1) := by decide +kernel
theorem dX0_wantOf_24 : decode cX0_wantOf 24 = .ok (.iaload, 1) := by decide +kernel
theorem dX0_wantOf_25 : decode cX0_wantOf 25 = .ok (.invokevirtual 70, 3) := by decide +kernel
theorem dX0_wantOf_28 : decode cX0_wantOf 28 = .ok (.goto 4, 3) := by decide +kernel
theorem dX0_wantOf_31 : decode cX0_wantOf 31 = .ok (.iconst 0, 1) := by decide +kernel
theorem dX0_wantOf_32 : decode cX0_wantOf 32 = .ok (.istore_n 3, 1) := by decide +kernel
theorem dX0_wantOf_33 : decode cX0_wantOf 33 = .ok (.aload_n 2, 1) := by decide +kernel
theorem dX0_wantOf_34 : decode cX0_wantOf 34 = .ok (.aload_n 2, 1) := by decide +kernel
theorem dX0_wantOf_35 : decode cX0_wantOf 35 = .ok (.getfield 74, 3) := by decide +kernel
theorem dX0_wantOf_38 : decode cX0_wantOf 38 = .ok (.aload_n 1, 1) := by decide +kernel
theorem dX0_wantOf_39 : decode cX0_wantOf 39 = .ok (.getfield 56, 3) := by decide +kernel
theorem dX0_wantOf_42 : decode cX0_wantOf 42 = .ok (.aload_n 1, 1) := by decide +kernel
theorem dX0_wantOf_43 : decode cX0_wantOf 43 = .ok (.aload_n 0, 1) := by decide +kernel
theorem dX0_wantOf_44 : decode cX0_wantOf 44 = .ok (.getfield 28, 3) := by decide +kernel
theorem dX0_wantOf_47 : decode cX0_wantOf 47 = .ok (.invokevirtual 77, 3) := by decide +kernel
theorem dX0_wantOf_50 : decode cX0_wantOf 50 = .ok (.iload_n 3, 1) := by decide +kernel
theorem dX0_wantOf_51 : decode cX0_wantOf 51 = .ok (.invokevirtual 81, 3) := by decide +kernel
theorem dX0_wantOf_54 : decode cX0_wantOf 54 = .ok (.ireturn, 1) := by decide +kernel
theorem dX0_wantBeside_0 : decode cX0_wantBeside 0 = .ok (.iconst 0, 1) := by decide +kernel
theorem dX0_wantBeside_1 : decode cX0_wantBeside 1 = .ok (.istore_n 3, 1) := by decide +kernel
theorem dX0_wantBeside_2 : decode cX0_wantBeside 2 = .ok (.iconst 0, 1) := by decide +kernel
theorem dX0_wantBeside_3 : decode cX0_wantBeside 3 = .ok (.istore 4, 2) := by decide +kernel
theorem dX0_wantBeside_5 : decode cX0_wantBeside 5 = .ok (.iload 4, 2) := by decide +kernel
theorem dX0_wantBeside_7 : decode cX0_wantBeside 7 = .ok (.aload_n 1, 1) := by decide +kernel
theorem dX0_wantBeside_8 : decode cX0_wantBeside 8 = .ok (.getfield 85, 3) := by decide +kernel
theorem dX0_wantBeside_11 : decode cX0_wantBeside 11 = .ok (.if_icmp .ge 32, 3) := by decide +kernel
theorem dX0_wantBeside_14 : decode cX0_wantBeside 14 = .ok (.iload 4, 2) := by decide +kernel
theorem dX0_wantBeside_16 : decode cX0_wantBeside 16 = .ok (.iload_n 2, 1) := by decide +kernel
theorem dX0_wantBeside_17 : decode cX0_wantBeside 17 = .ok (.if_icmp .eq 20, 3) := by decide +kernel
theorem dX0_wantBeside_20 : decode cX0_wantBeside 20 = .ok (.iload_n 3, 1) := by decide +kernel
theorem dX0_wantBeside_21 : decode cX0_wantBeside 21 = .ok (.aload_n 0, 1) := by decide +kernel
theorem dX0_wantBeside_22 : decode cX0_wantBeside 22 = .ok (.aload_n 1, 1) := by decide +kernel
theorem dX0_wantBeside_23 : decode cX0_wantBeside 23 = .ok (.aload_n 1, 1) := by decide +kernel
theorem dX0_wantBeside_24 : decode cX0_wantBeside 24 = .ok (.getfield 88, 3) := by decide +kernel
theorem dX0_wantBeside_27 : decode cX0_wantBeside 27 = .ok (.iload 4, 2) := by decide +kernel
theorem dX0_wantBeside_29 : decode cX0_wantBeside 29 = .ok (.aaload, 1) := by decide +kernel
theorem dX0_wantBeside_30 : decode cX0_wantBeside 30 = .ok (.invokevirtual 92, 3) := by decide +kernel
theorem dX0_wantBeside_33 : decode cX0_wantBeside 33 = .ok (.invokestatic 96, 3) := by decide +kernel
theorem dX0_wantBeside_36 : decode cX0_wantBeside 36 = .ok (.istore_n 3, 1) := by decide +kernel
theorem dX0_wantBeside_37 : decode cX0_wantBeside 37 = .ok (.iinc 4 1, 3) := by decide +kernel
theorem dX0_wantBeside_40 : decode cX0_wantBeside 40 = .ok (.goto (-35), 3) := by decide +kernel
theorem dX0_wantBeside_43 : decode cX0_wantBeside 43 = .ok (.iload_n 3, 1) := by decide +kernel
theorem dX0_wantBeside_44 : decode cX0_wantBeside 44 = .ok (.ireturn, 1) := by decide +kernel
theorem dX0_playRound_0 : decode cX0_playRound 0 = .ok (.iconst 0, 1) := by decide +kernel
theorem dX0_playRound_1 : decode cX0_playRound 1 = .ok (.istore_n 1, 1) := by decide +kernel
theorem dX0_playRound_2 : decode cX0_playRound 2 = .ok (.iload_n 1, 1) := by decide +kernel
theorem dX0_playRound_3 : decode cX0_playRound 3 = .ok (.aload_n 0, 1) := by decide +kernel
theorem dX0_playRound_4 : decode cX0_playRound 4 = .ok (.getfield 21, 3) := by decide +kernel
theorem dX0_playRound_7 : decode cX0_playRound 7 = .ok (.if_icmp .ge 22, 3) := by decide +kernel
theorem dX0_playRound_10 : decode cX0_playRound 10 = .ok (.aload_n 0, 1) := by decide +kernel
theorem dX0_playRound_11 : decode cX0_playRound 11 = .ok (.getfield 17, 3) := by decide +kernel
theorem dX0_playRound_14 : decode cX0_playRound 14 = .ok (.iload_n 1, 1) := by decide +kernel
theorem dX0_playRound_15 : decode cX0_playRound 15 = .ok (.aaload, 1) := by decide +kernel
theorem dX0_playRound_16 : decode cX0_playRound 16 = .ok (.aload_n 0, 1) := by decide +kernel
theorem dX0_playRound_17 : decode cX0_playRound 17 = .ok (.getfield 28, 3) := by decide +kernel
theorem dX0_playRound_20 : decode cX0_playRound 20 = .ok (.invokevirtual 99, 3) := by decide +kernel
theorem dX0_playRound_23 : decode cX0_playRound 23 = .ok (.iinc 1 1, 3) := by decide +kernel
theorem dX0_playRound_26 : decode cX0_playRound 26 = .ok (.goto (-24), 3) := by decide +kernel
theorem dX0_playRound_29 : decode cX0_playRound 29 = .ok (.iconst 0, 1) := by decide +kernel
theorem dX0_playRound_30 : decode cX0_playRound 30 = .ok (.istore_n 1, 1) := by decide +kernel
theorem dX0_playRound_31 : decode cX0_playRound 31 = .ok (.iload_n 1, 1) := by decide +kernel
theorem dX0_playRound_32 : decode cX0_playRound 32 = .ok (.aload_n 0, 1) := by decide +kernel
theorem dX0_playRound_33 : decode cX0_playRound 33 = .ok (.getfield 21, 3) := by decide +kernel
theorem dX0_playRound_36 : decode cX0_playRound 36 = .ok (.if_icmp .ge 50, 3) := by decide +kernel
theorem dX0_playRound_39 : decode cX0_playRound 39 = .ok (.aload_n 0, 1) := by decide +kernel
theorem dX0_playRound_40 : decode cX0_playRound 40 = .ok (.getfield 17, 3) := by decide +kernel
theorem dX0_playRound_43 : decode cX0_playRound 43 = .ok (.iload_n 1, 1) := by decide +kernel
theorem dX0_playRound_44 : decode cX0_playRound 44 = .ok (.aaload, 1) := by decide +kernel
theorem dX0_playRound_45 : decode cX0_playRound 45 = .ok (.astore_n 2, 1) := by decide +kernel
theorem dX0_playRound_46 : decode cX0_playRound 46 = .ok (.aload_n 2, 1) := by decide +kernel
theorem dX0_playRound_47 : decode cX0_playRound 47 = .ok (.aload_n 2, 1) := by decide +kernel
theorem dX0_playRound_48 : decode cX0_playRound 48 = .ok (.getfield 85, 3) := by decide +kernel
theorem dX0_playRound_51 : decode cX0_playRound 51 = .ok (.ifCond .ne 12, 3) := by decide +kernel
theorem dX0_playRound_54 : decode cX0_playRound 54 = .ok (.aload_n 2, 1) := by decide +kernel
theorem dX0_playRound_55 : decode cX0_playRound 55 = .ok (.getfield 55, 3) := by decide +kernel
theorem dX0_playRound_58 : decode cX0_playRound 58 = .ok (.iconst 0, 1) := by decide +kernel
theorem dX0_playRound_59 : decode cX0_playRound 59 = .ok (.iaload, 1) := by decide +kernel
theorem dX0_playRound_60 : decode cX0_playRound 60 = .ok (.goto 9, 3) := by decide +kernel
theorem dX0_playRound_63 : decode cX0_playRound 63 = .ok (.aload_n 0, 1) := by decide +kernel
theorem dX0_playRound_64 : decode cX0_playRound 64 = .ok (.aload_n 2, 1) := by decide +kernel
theorem dX0_playRound_65 : decode cX0_playRound 65 = .ok (.iconst (-1), 1) := by decide +kernel
theorem dX0_playRound_66 : decode cX0_playRound 66 = .ok (.invokevirtual 103, 3) := by decide +kernel
theorem dX0_playRound_69 : decode cX0_playRound 69 = .ok (.putfield 107, 3) := by decide +kernel
theorem dX0_playRound_72 : decode cX0_playRound 72 = .ok (.aload_n 2, 1) := by decide +kernel
theorem dX0_playRound_73 : decode cX0_playRound 73 = .ok (.aload_n 0, 1) := by decide +kernel
theorem dX0_playRound_74 : decode cX0_playRound 74 = .ok (.getfield 28, 3) := by decide +kernel
theorem dX0_playRound_77 : decode cX0_playRound 77 = .ok (.invokevirtual 110, 3) := by decide +kernel
theorem dX0_playRound_80 : decode cX0_playRound 80 = .ok (.iinc 1 1, 3) := by decide +kernel
theorem dX0_playRound_83 : decode cX0_playRound 83 = .ok (.goto (-52), 3) := by decide +kernel
theorem dX0_playRound_86 : decode cX0_playRound 86 = .ok (.iconst 0, 1) := by decide +kernel
theorem dX0_playRound_87 : decode cX0_playRound 87 = .ok (.istore_n 1, 1) := by decide +kernel
theorem dX0_playRound_88 : decode cX0_playRound 88 = .ok (.iload_n 1, 1) := by decide +kernel
theorem dX0_playRound_89 : decode cX0_playRound 89 = .ok (.aload_n 0, 1) := by decide +kernel
theorem dX0_playRound_90 : decode cX0_playRound 90 = .ok (.getfield 21, 3) := by decide +kernel
theorem dX0_playRound_93 : decode cX0_playRound 93 = .ok (.if_icmp .ge 22, 3) := by decide +kernel
theorem dX0_playRound_96 : decode cX0_playRound 96 = .ok (.aload_n 0, 1) := by decide +kernel
theorem dX0_playRound_97 : decode cX0_playRound 97 = .ok (.getfield 17, 3) := by decide +kernel
theorem dX0_playRound_100 : decode cX0_playRound 100 = .ok (.iload_n 1, 1) := by decide +kernel
theorem dX0_playRound_101 : decode cX0_playRound 101 = .ok (.aaload, 1) := by decide +kernel
theorem dX0_playRound_102 : decode cX0_playRound 102 = .ok (.aload_n 0, 1) := by decide +kernel
theorem dX0_playRound_103 : decode cX0_playRound 103 = .ok (.getfield 28, 3) := by decide +kernel
theorem dX0_playRound_106 : decode cX0_playRound 106 = .ok (.invokevirtual 113, 3) := by decide +kernel
theorem dX0_playRound_109 : decode cX0_playRound 109 = .ok (.iinc 1 1, 3) := by decide +kernel
theorem dX0_playRound_112 : decode cX0_playRound 112 = .ok (.goto (-24), 3) := by decide +kernel
theorem dX0_playRound_115 : decode cX0_playRound 115 = .ok (.aload_n 0, 1) := by decide +kernel
theorem dX0_playRound_116 : decode cX0_playRound 116 = .ok (.invokevirtual 116, 3) := by decide +kernel
theorem dX0_playRound_119 : decode cX0_playRound 119 = .ok (.aload_n 0, 1) := by decide +kernel
theorem dX0_playRound_120 : decode cX0_playRound 120 = .ok (.aload_n 0, 1) := by decide +kernel
theorem dX0_playRound_121 : decode cX0_playRound 121 = .ok (.getfield 25, 3) := by decide +kernel
theorem dX0_playRound_124 : decode cX0_playRound 124 = .ok (.aload_n 0, 1) := by decide +kernel
theorem dX0_playRound_125 : decode cX0_playRound 125 = .ok (.getfield 9, 3) := by decide +kernel
theorem dX0_playRound_128 : decode cX0_playRound 128 = .ok (.iconst 3, 1) := by decide +kernel
theorem dX0_playRound_129 : decode cX0_playRound 129 = .ok (.iaload, 1) := by decide +kernel
theorem dX0_playRound_130 : decode cX0_playRound 130 = .ok (.iadd, 1) := by decide +kernel
theorem dX0_playRound_131 : decode cX0_playRound 131 = .ok (.aload_n 0, 1) := by decide +kernel
theorem dX0_playRound_132 : decode cX0_playRound 132 = .ok (.getfield 9, 3) := by decide +kernel
theorem dX0_playRound_135 : decode cX0_playRound 135 = .ok (.iconst 2, 1) := by decide +kernel
theorem dX0_playRound_136 : decode cX0_playRound 136 = .ok (.iaload, 1) := by decide +kernel
theorem dX0_playRound_137 : decode cX0_playRound 137 = .ok (.invokestatic 49, 3) := by decide +kernel
theorem dX0_playRound_140 : decode cX0_playRound 140 = .ok (.putfield 25, 3) := by decide +kernel
theorem dX0_playRound_143 : decode cX0_playRound 143 = .ok (.iconst 0, 1) := by decide +kernel
theorem dX0_playRound_144 : decode cX0_playRound 144 = .ok (.istore_n 1, 1) := by decide +kernel
theorem dX0_playRound_145 : decode cX0_playRound 145 = .ok (.iload_n 1, 1) := by decide +kernel
theorem dX0_playRound_146 : decode cX0_playRound 146 = .ok (.aload_n 0, 1) := by decide +kernel
theorem dX0_playRound_147 : decode cX0_playRound 147 = .ok (.getfield 21, 3) := by decide +kernel
theorem dX0_playRound_150 : decode cX0_playRound 150 = .ok (.if_icmp .ge 22, 3) := by decide +kernel
theorem dX0_playRound_153 : decode cX0_playRound 153 = .ok (.aload_n 0, 1) := by decide +kernel
theorem dX0_playRound_154 : decode cX0_playRound 154 = .ok (.getfield 17, 3) := by decide +kernel
theorem dX0_playRound_157 : decode cX0_playRound 157 = .ok (.iload_n 1, 1) := by decide +kernel
theorem dX0_playRound_158 : decode cX0_playRound 158 = .ok (.aaload, 1) := by decide +kernel
theorem dX0_playRound_159 : decode cX0_playRound 159 = .ok (.aload_n 0, 1) := by decide +kernel
theorem dX0_playRound_160 : decode cX0_playRound 160 = .ok (.getfield 28, 3) := by decide +kernel
theorem dX0_playRound_163 : decode cX0_playRound 163 = .ok (.invokevirtual 119, 3) := by decide +kernel
theorem dX0_playRound_166 : decode cX0_playRound 166 = .ok (.iinc 1 1, 3) := by decide +kernel
theorem dX0_playRound_169 : decode cX0_playRound 169 = .ok (.goto (-24), 3) := by decide +kernel
theorem dX0_playRound_172 : decode cX0_playRound 172 = .ok (.aload_n 0, 1) := by decide +kernel
theorem dX0_playRound_173 : decode cX0_playRound 173 = .ok (.dup, 1) := by decide +kernel
theorem dX0_playRound_174 : decode cX0_playRound 174 = .ok (.getfield 28, 3) := by decide +kernel
theorem dX0_playRound_177 : decode cX0_playRound 177 = .ok (.iconst 1, 1) := by decide +kernel
theorem dX0_playRound_178 : decode cX0_playRound 178 = .ok (.iadd, 1) := by decide +kernel
theorem dX0_playRound_179 : decode cX0_playRound 179 = .ok (.putfield 28, 3) := by decide +kernel
theorem dX0_playRound_182 : decode cX0_playRound 182 = .ok (.return_, 1) := by decide +kernel
theorem dX0_giveOut_0 : decode cX0_giveOut 0 = .ok (.aload_n 0, 1) := by decide +kernel
theorem dX0_giveOut_1 : decode cX0_giveOut 1 = .ok (.getfield 9, 3) := by decide +kernel
theorem dX0_giveOut_4 : decode cX0_giveOut 4 = .ok (.iconst 0, 1) := by decide +kernel
theorem dX0_giveOut_5 : decode cX0_giveOut 5 = .ok (.iaload, 1) := by decide +kernel
theorem dX0_giveOut_6 : decode cX0_giveOut 6 = .ok (.aload_n 0, 1) := by decide +kernel
theorem dX0_giveOut_7 : decode cX0_giveOut 7 = .ok (.invokevirtual 122, 3) := by decide +kernel
theorem dX0_giveOut_10 : decode cX0_giveOut 10 = .ok (.isub, 1) := by decide +kernel
theorem dX0_giveOut_11 : decode cX0_giveOut 11 = .ok (.iconst 0, 1) := by decide +kernel
theorem dX0_giveOut_12 : decode cX0_giveOut 12 = .ok (.invokestatic 96, 3) := by decide +kernel
theorem dX0_giveOut_15 : decode cX0_giveOut 15 = .ok (.istore_n 1, 1) := by decide +kernel
theorem dX0_giveOut_16 : decode cX0_giveOut 16 = .ok (.iconst 0, 1) := by decide +kernel
theorem dX0_giveOut_17 : decode cX0_giveOut 17 = .ok (.istore_n 2, 1) := by decide +kernel
theorem dX0_giveOut_18 : decode cX0_giveOut 18 = .ok (.iload_n 2, 1) := by decide +kernel
theorem dX0_giveOut_19 : decode cX0_giveOut 19 = .ok (.aload_n 0, 1) := by decide +kernel
theorem dX0_giveOut_20 : decode cX0_giveOut 20 = .ok (.getfield 21, 3) := by decide +kernel
theorem dX0_giveOut_23 : decode cX0_giveOut 23 = .ok (.if_icmp .ge 97, 3) := by decide +kernel
theorem dX0_giveOut_26 : decode cX0_giveOut 26 = .ok (.aload_n 0, 1) := by decide +kernel
theorem dX0_giveOut_27 : decode cX0_giveOut 27 = .ok (.invokevirtual 126, 3) := by decide +kernel
theorem dX0_giveOut_30 : decode cX0_giveOut 30 = .ok (.istore_n 3, 1) := by decide +kernel
theorem dX0_giveOut_31 : decode cX0_giveOut 31 = .ok (.iload_n 3, 1) := by decide +kernel
theorem dX0_giveOut_32 : decode cX0_giveOut 32 = .ok (.iconst (-1), 1) := by decide +kernel
theorem dX0_giveOut_33 : decode cX0_giveOut 33 = .ok (.if_icmp .ne 4, 3) := by decide +kernel
theorem dX0_giveOut_36 : decode cX0_giveOut 36 = .ok (.return_, 1) := by decide +kernel
theorem dX0_giveOut_37 : decode cX0_giveOut 37 = .ok (.aload_n 0, 1) := by decide +kernel
theorem dX0_giveOut_38 : decode cX0_giveOut 38 = .ok (.getfield 17, 3) := by decide +kernel
theorem dX0_giveOut_41 : decode cX0_giveOut 41 = .ok (.iload_n 3, 1) := by decide +kernel
theorem dX0_giveOut_42 : decode cX0_giveOut 42 = .ok (.aaload, 1) := by decide +kernel
theorem dX0_giveOut_43 : decode cX0_giveOut 43 = .ok (.astore 4, 2) := by decide +kernel
theorem dX0_giveOut_45 : decode cX0_giveOut 45 = .ok (.aload 4, 2) := by decide +kernel
theorem dX0_giveOut_47 : decode cX0_giveOut 47 = .ok (.getfield 129, 3) := by decide +kernel
theorem dX0_giveOut_50 : decode cX0_giveOut 50 = .ok (.aload 4, 2) := by decide +kernel
theorem dX0_giveOut_52 : decode cX0_giveOut 52 = .ok (.getfield 56, 3) := by decide +kernel
theorem dX0_giveOut_55 : decode cX0_giveOut 55 = .ok (.isub, 1) := by decide +kernel
theorem dX0_giveOut_56 : decode cX0_giveOut 56 = .ok (.iload_n 1, 1) := by decide +kernel
theorem dX0_giveOut_57 : decode cX0_giveOut 57 = .ok (.invokestatic 49, 3) := by decide +kernel
theorem dX0_giveOut_60 : decode cX0_giveOut 60 = .ok (.istore 5, 2) := by decide +kernel
theorem dX0_giveOut_62 : decode cX0_giveOut 62 = .ok (.iload 5, 2) := by decide +kernel
theorem dX0_giveOut_64 : decode cX0_giveOut 64 = .ok (.aload_n 0, 1) := by decide +kernel
theorem dX0_giveOut_65 : decode cX0_giveOut 65 = .ok (.getfield 25, 3) := by decide +kernel
theorem dX0_giveOut_68 : decode cX0_giveOut 68 = .ok (.invokestatic 49, 3) := by decide +kernel
theorem dX0_giveOut_71 : decode cX0_giveOut 71 = .ok (.istore 6, 2) := by decide +kernel
theorem dX0_giveOut_73 : decode cX0_giveOut 73 = .ok (.aload 4, 2) := by decide +kernel
theorem dX0_giveOut_75 : decode cX0_giveOut 75 = .ok (.iload_n 2, 1) := by decide +kernel
theorem dX0_giveOut_76 : decode cX0_giveOut 76 = .ok (.putfield 132, 3) := by decide +kernel
theorem dX0_giveOut_79 : decode cX0_giveOut 79 = .ok (.aload 4, 2) := by decide +kernel
theorem dX0_giveOut_81 : decode cX0_giveOut 81 = .ok (.aload_n 0, 1) := by decide +kernel
theorem dX0_giveOut_82 : decode cX0_giveOut 82 = .ok (.getfield 28, 3) := by decide +kernel
theorem dX0_giveOut_85 : decode cX0_giveOut 85 = .ok (.iload 5, 2) := by decide +kernel
theorem dX0_giveOut_87 : decode cX0_giveOut 87 = .ok (.iload 6, 2) := by decide +kernel
theorem dX0_giveOut_89 : decode cX0_giveOut 89 = .ok (.aload_n 0, 1) := by decide +kernel
theorem dX0_giveOut_90 : decode cX0_giveOut 90 = .ok (.getfield 9, 3) := by decide +kernel
theorem dX0_giveOut_93 : decode cX0_giveOut 93 = .ok (.iconst 1, 1) := by decide +kernel
theorem dX0_giveOut_94 : decode cX0_giveOut 94 = .ok (.iaload, 1) := by decide +kernel
theorem dX0_giveOut_95 : decode cX0_giveOut 95 = .ok (.invokevirtual 135, 3) := by decide +kernel
theorem dX0_giveOut_98 : decode cX0_giveOut 98 = .ok (.iload_n 1, 1) := by decide +kernel
theorem dX0_giveOut_99 : decode cX0_giveOut 99 = .ok (.iload 5, 2) := by decide +kernel
theorem dX0_giveOut_101 : decode cX0_giveOut 101 = .ok (.isub, 1) := by decide +kernel
theorem dX0_giveOut_102 : decode cX0_giveOut 102 = .ok (.istore_n 1, 1) := by decide +kernel
theorem dX0_giveOut_103 : decode cX0_giveOut 103 = .ok (.aload_n 0, 1) := by decide +kernel
theorem dX0_giveOut_104 : decode cX0_giveOut 104 = .ok (.dup, 1) := by decide +kernel
theorem dX0_giveOut_105 : decode cX0_giveOut 105 = .ok (.getfield 25, 3) := by decide +kernel
theorem dX0_giveOut_108 : decode cX0_giveOut 108 = .ok (.iload 6, 2) := by decide +kernel
theorem dX0_giveOut_110 : decode cX0_giveOut 110 = .ok (.isub, 1) := by decide +kernel
theorem dX0_giveOut_111 : decode cX0_giveOut 111 = .ok (.putfield 25, 3) := by decide +kernel
theorem dX0_giveOut_114 : decode cX0_giveOut 114 = .ok (.iinc 2 1, 3) := by decide +kernel
theorem dX0_giveOut_117 : decode cX0_giveOut 117 = .ok (.goto (-99), 3) := by decide +kernel
theorem dX0_giveOut_120 : decode cX0_giveOut 120 = .ok (.return_, 1) := by decide +kernel
theorem dX0_firstInNeed_0 : decode cX0_firstInNeed 0 = .ok (.iconst (-1), 1) := by decide +kernel
theorem dX0_firstInNeed_1 : decode cX0_firstInNeed 1 = .ok (.istore_n 1, 1) := by decide +kernel
theorem dX0_firstInNeed_2 : decode cX0_firstInNeed 2 = .ok (.iconst 0, 1) := by decide +kernel
theorem dX0_firstInNeed_3 : decode cX0_firstInNeed 3 = .ok (.istore_n 2, 1) := by decide +kernel
theorem dX0_firstInNeed_4 : decode cX0_firstInNeed 4 = .ok (.iload_n 2, 1) := by decide +kernel
theorem dX0_firstInNeed_5 : decode cX0_firstInNeed 5 = .ok (.aload_n 0, 1) := by decide +kernel
theorem dX0_firstInNeed_6 : decode cX0_firstInNeed 6 = .ok (.getfield 21, 3) := by decide +kernel
theorem dX0_firstInNeed_9 : decode cX0_firstInNeed 9 = .ok (.if_icmp .ge 67, 3) := by decide +kernel
theorem dX0_firstInNeed_12 : decode cX0_firstInNeed 12 = .ok (.aload_n 0, 1) := by decide +kernel
theorem dX0_firstInNeed_13 : decode cX0_firstInNeed 13 = .ok (.getfield 17, 3) := by decide +kernel
theorem dX0_firstInNeed_16 : decode cX0_firstInNeed 16 = .ok (.iload_n 2, 1) := by decide +kernel
theorem dX0_firstInNeed_17 : decode cX0_firstInNeed 17 = .ok (.aaload, 1) := by decide +kernel
theorem dX0_firstInNeed_18 : decode cX0_firstInNeed 18 = .ok (.astore_n 3, 1) := by decide +kernel
theorem dX0_firstInNeed_19 : decode cX0_firstInNeed 19 = .ok (.aload_n 3, 1) := by decide +kernel
theorem dX0_firstInNeed_20 : decode cX0_firstInNeed 20 = .ok (.getfield 132, 3) := by decide +kernel
theorem dX0_firstInNeed_23 : decode cX0_firstInNeed 23 = .ok (.iconst (-1), 1) := by decide +kernel
theorem dX0_firstInNeed_24 : decode cX0_firstInNeed 24 = .ok (.if_icmp .ne 18, 3) := by decide +kernel
theorem dX0_firstInNeed_27 : decode cX0_firstInNeed 27 = .ok (.aload_n 3, 1) := by decide +kernel
theorem dX0_firstInNeed_28 : decode cX0_firstInNeed 28 = .ok (.getfield 56, 3) := by decide +kernel
theorem dX0_firstInNeed_31 : decode cX0_firstInNeed 31 = .ok (.aload_n 3, 1) := by decide +kernel
theorem dX0_firstInNeed_32 : decode cX0_firstInNeed 32 = .ok (.getfield 129, 3) := by decide +kernel
theorem dX0_firstInNeed_35 : decode cX0_firstInNeed 35 = .ok (.if_icmp .ge 7, 3) := by decide +kernel
theorem dX0_firstInNeed_38 : decode cX0_firstInNeed 38 = .ok (.iconst 1, 1) := by decide +kernel
theorem dX0_firstInNeed_39 : decode cX0_firstInNeed 39 = .ok (.goto 4, 3) := by decide +kernel
theorem dX0_firstInNeed_42 : decode cX0_firstInNeed 42 = .ok (.iconst 0, 1) := by decide +kernel
theorem dX0_firstInNeed_43 : decode cX0_firstInNeed 43 = .ok (.istore 4, 2) := by decide +kernel
theorem dX0_firstInNeed_45 : decode cX0_firstInNeed 45 = .ok (.iload 4, 2) := by decide +kernel
theorem dX0_firstInNeed_47 : decode cX0_firstInNeed 47 = .ok (.ifCond .eq 23, 3) := by decide +kernel
theorem dX0_firstInNeed_50 : decode cX0_firstInNeed 50 = .ok (.iload_n 1, 1) := by decide +kernel
theorem dX0_firstInNeed_51 : decode cX0_firstInNeed 51 = .ok (.iconst (-1), 1) := by decide +kernel
theorem dX0_firstInNeed_52 : decode cX0_firstInNeed 52 = .ok (.if_icmp .eq 16, 3) := by decide +kernel
theorem dX0_firstInNeed_55 : decode cX0_firstInNeed 55 = .ok (.aload_n 3, 1) := by decide +kernel
theorem dX0_firstInNeed_56 : decode cX0_firstInNeed 56 = .ok (.aload_n 0, 1) := by decide +kernel
theorem dX0_firstInNeed_57 : decode cX0_firstInNeed 57 = .ok (.getfield 17, 3) := by decide +kernel
theorem dX0_firstInNeed_60 : decode cX0_firstInNeed 60 = .ok (.iload_n 1, 1) := by decide +kernel
theorem dX0_firstInNeed_61 : decode cX0_firstInNeed 61 = .ok (.aaload, 1) := by decide +kernel
theorem dX0_firstInNeed_62 : decode cX0_firstInNeed 62 = .ok (.invokevirtual 139, 3) := by decide +kernel
theorem dX0_firstInNeed_65 : decode cX0_firstInNeed 65 = .ok (.ifCond .eq 5, 3) := by decide +kernel
theorem dX0_firstInNeed_68 : decode cX0_firstInNeed 68 = .ok (.iload_n 2, 1) := by decide +kernel
theorem dX0_firstInNeed_69 : decode cX0_firstInNeed 69 = .ok (.istore_n 1, 1) := by decide +kernel
theorem dX0_firstInNeed_70 : decode cX0_firstInNeed 70 = .ok (.iinc 2 1, 3) := by decide +kernel
theorem dX0_firstInNeed_73 : decode cX0_firstInNeed 73 = .ok (.goto (-69), 3) := by decide +kernel
theorem dX0_firstInNeed_76 : decode cX0_firstInNeed 76 = .ok (.iload_n 1, 1) := by decide +kernel
theorem dX0_firstInNeed_77 : decode cX0_firstInNeed 77 = .ok (.ireturn, 1) := by decide +kernel
theorem dX1_init_0 : decode cX1_init 0 = .ok (.aload_n 0, 1) := by decide +kernel
theorem dX1_init_1 : decode cX1_init 1 = .ok (.invokespecial 3, 3) := by decide +kernel
theorem dX1_init_4 : decode cX1_init 4 = .ok (.aload_n 0, 1) := by decide +kernel
theorem dX1_init_5 : decode cX1_init 5 = .ok (.iconst 1, 1) := by decide +kernel
theorem dX1_init_6 : decode cX1_init 6 = .ok (.putfield 9, 3) := by decide +kernel
theorem dX1_init_9 : decode cX1_init 9 = .ok (.aload_n 0, 1) := by decide +kernel
theorem dX1_init_10 : decode cX1_init 10 = .ok (.iconst 1, 1) := by decide +kernel
theorem dX1_init_11 : decode cX1_init 11 = .ok (.putfield 15, 3) := by decide +kernel
theorem dX1_init_14 : decode cX1_init 14 = .ok (.aload_n 0, 1) := by decide +kernel
theorem dX1_init_15 : decode cX1_init 15 = .ok (.iconst (-1), 1) := by decide +kernel
theorem dX1_init_16 : decode cX1_init 16 = .ok (.putfield 18, 3) := by decide +kernel
theorem dX1_init_19 : decode cX1_init 19 = .ok (.aload_n 0, 1) := by decide +kernel
theorem dX1_init_20 : decode cX1_init 20 = .ok (.bipush 32, 2) := by decide +kernel
theorem dX1_init_22 : decode cX1_init 22 = .ok (.newarray .int, 2) := by decide +kernel
theorem dX1_init_24 : decode cX1_init 24 = .ok (.putfield 21, 3) := by decide +kernel
theorem dX1_init_27 : decode cX1_init 27 = .ok (.return_, 1) := by decide +kernel
theorem dX1_wantBy_0 : decode cX1_wantBy 0 = .ok (.iload_n 1, 1) := by decide +kernel
theorem dX1_wantBy_1 : decode cX1_wantBy 1 = .ok (.iconst (-1), 1) := by decide +kernel
theorem dX1_wantBy_2 : decode cX1_wantBy 2 = .ok (.if_icmp .ne 5, 3) := by decide +kernel
theorem dX1_wantBy_5 : decode cX1_wantBy 5 = .ok (.iload_n 2, 1) := by decide +kernel
theorem dX1_wantBy_6 : decode cX1_wantBy 6 = .ok (.ireturn, 1) := by decide +kernel
theorem dX1_wantBy_7 : decode cX1_wantBy 7 = .ok (.aload_n 0, 1) := by decide +kernel
theorem dX1_wantBy_8 : decode cX1_wantBy 8 = .ok (.getfield 9, 3) := by decide +kernel
theorem dX1_wantBy_11 : decode cX1_wantBy 11 = .ok (.tableswitch 104 2 4 #[25, 39, 77], 25) := by decide +kernel
theorem dX1_wantBy_36 : decode cX1_wantBy 36 = .ok (.iload_n 1, 1) := by decide +kernel
theorem dX1_wantBy_37 : decode cX1_wantBy 37 = .ok (.iload 4, 2) := by decide +kernel
theorem dX1_wantBy_39 : decode cX1_wantBy 39 = .ok (.invokestatic 25, 3) := by decide +kernel
theorem dX1_wantBy_42 : decode cX1_wantBy 42 = .ok (.aload_n 0, 1) := by decide +kernel
theorem dX1_wantBy_43 : decode cX1_wantBy 43 = .ok (.getfield 15, 3) := by decide +kernel
theorem dX1_wantBy_46 : decode cX1_wantBy 46 = .ok (.invokestatic 31, 3) := by decide +kernel
theorem dX1_wantBy_49 : decode cX1_wantBy 49 = .ok (.ireturn, 1) := by decide +kernel
theorem dX1_wantBy_50 : decode cX1_wantBy 50 = .ok (.bipush 10, 2) := by decide +kernel
theorem dX1_wantBy_52 : decode cX1_wantBy 52 = .ok (.iload_n 1, 1) := by decide +kernel
theorem dX1_wantBy_53 : decode cX1_wantBy 53 = .ok (.aload_n 0, 1) := by decide +kernel
theorem dX1_wantBy_54 : decode cX1_wantBy 54 = .ok (.getfield 15, 3) := by decide +kernel
theorem dX1_wantBy_57 : decode cX1_wantBy 57 = .ok (.isub, 1) := by decide +kernel
theorem dX1_wantBy_58 : decode cX1_wantBy 58 = .ok (.invokestatic 34, 3) := by decide +kernel
theorem dX1_wantBy_61 : decode cX1_wantBy 61 = .ok (.imul, 1) := by decide +kernel
theorem dX1_wantBy_62 : decode cX1_wantBy 62 = .ok (.aload_n 0, 1) := by decide +kernel
theorem dX1_wantBy_63 : decode cX1_wantBy 63 = .ok (.getfield 15, 3) := by decide +kernel
theorem dX1_wantBy_66 : decode cX1_wantBy 66 = .ok (.if_icmp .gt 7, 3) := by decide +kernel
theorem dX1_wantBy_69 : decode cX1_wantBy 69 = .ok (.iload_n 2, 1) := by decide +kernel
theorem dX1_wantBy_70 : decode cX1_wantBy 70 = .ok (.goto 17, 3) := by decide +kernel
theorem dX1_wantBy_73 : decode cX1_wantBy 73 = .ok (.iload_n 3, 1) := by decide +kernel
theorem dX1_wantBy_74 : decode cX1_wantBy 74 = .ok (.iconst 1, 1) := by decide +kernel
theorem dX1_wantBy_75 : decode cX1_wantBy 75 = .ok (.invokestatic 25, 3) := by decide +kernel
theorem dX1_wantBy_78 : decode cX1_wantBy 78 = .ok (.iload_n 1, 1) := by decide +kernel
theorem dX1_wantBy_79 : decode cX1_wantBy 79 = .ok (.imul, 1) := by decide +kernel
theorem dX1_wantBy_80 : decode cX1_wantBy 80 = .ok (.aload_n 0, 1) := by decide +kernel
theorem dX1_wantBy_81 : decode cX1_wantBy 81 = .ok (.getfield 15, 3) := by decide +kernel
theorem dX1_wantBy_84 : decode cX1_wantBy 84 = .ok (.invokestatic 31, 3) := by decide +kernel
theorem dX1_wantBy_87 : decode cX1_wantBy 87 = .ok (.ireturn, 1) := by decide +kernel
theorem dX1_wantBy_88 : decode cX1_wantBy 88 = .ok (.iload_n 1, 1) := by decide +kernel
theorem dX1_wantBy_89 : decode cX1_wantBy 89 = .ok (.ifCond .ne 13, 3) := by decide +kernel
theorem dX1_wantBy_92 : decode cX1_wantBy 92 = .ok (.iload_n 2, 1) := by decide +kernel
theorem dX1_wantBy_93 : decode cX1_wantBy 93 = .ok (.iconst 1, 1) := by decide +kernel
theorem dX1_wantBy_94 : decode cX1_wantBy 94 = .ok (.isub, 1) := by decide +kernel
theorem dX1_wantBy_95 : decode cX1_wantBy 95 = .ok (.iconst 0, 1) := by decide +kernel
theorem dX1_wantBy_96 : decode cX1_wantBy 96 = .ok (.invokestatic 25, 3) := by decide +kernel
theorem dX1_wantBy_99 : decode cX1_wantBy 99 = .ok (.goto 15, 3) := by decide +kernel
theorem dX1_wantBy_102 : decode cX1_wantBy 102 = .ok (.iload_n 2, 1) := by decide +kernel
theorem dX1_wantBy_103 : decode cX1_wantBy 103 = .ok (.iload_n 1, 1) := by decide +kernel
theorem dX1_wantBy_104 : decode cX1_wantBy 104 = .ok (.iconst 1, 1) := by decide +kernel
theorem dX1_wantBy_105 : decode cX1_wantBy 105 = .ok (.isub, 1) := by decide +kernel
theorem dX1_wantBy_106 : decode cX1_wantBy 106 = .ok (.aload_n 0, 1) := by decide +kernel
theorem dX1_wantBy_107 : decode cX1_wantBy 107 = .ok (.getfield 15, 3) := by decide +kernel
theorem dX1_wantBy_110 : decode cX1_wantBy 110 = .ok (.invokestatic 38, 3) := by decide +kernel
theorem dX1_wantBy_113 : decode cX1_wantBy 113 = .ok (.iadd, 1) := by decide +kernel
theorem dX1_wantBy_114 : decode cX1_wantBy 114 = .ok (.ireturn, 1) := by decide +kernel
theorem dX1_wantBy_115 : decode cX1_wantBy 115 = .ok (.iload_n 1, 1) := by decide +kernel
theorem dX1_wantBy_116 : decode cX1_wantBy 116 = .ok (.aload_n 0, 1) := by decide +kernel
theorem dX1_wantBy_117 : decode cX1_wantBy 117 = .ok (.getfield 15, 3) := by decide +kernel
theorem dX1_wantBy_120 : decode cX1_wantBy 120 = .ok (.invokestatic 31, 3) := by decide +kernel
theorem dX1_wantBy_123 : decode cX1_wantBy 123 = .ok (.ireturn, 1) := by decide +kernel
theorem dX1_foresee_0 : decode cX1_foresee 0 = .ok (.iconst 0, 1) := by decide +kernel
theorem dX1_foresee_1 : decode cX1_foresee 1 = .ok (.istore 4, 2) := by decide +kernel
theorem dX1_foresee_3 : decode cX1_foresee 3 = .ok (.iconst 0, 1) := by decide +kernel
theorem dX1_foresee_4 : decode cX1_foresee 4 = .ok (.istore 5, 2) := by decide +kernel
theorem dX1_foresee_6 : decode cX1_foresee 6 = .ok (.iconst 1, 1) := by decide +kernel
theorem dX1_foresee_7 : decode cX1_foresee 7 = .ok (.istore 6, 2) := by decide +kernel
theorem dX1_foresee_9 : decode cX1_foresee 9 = .ok (.iload 6, 2) := by decide +kernel
theorem dX1_foresee_11 : decode cX1_foresee 11 = .ok (.iconst 3, 1) := by decide +kernel
theorem dX1_foresee_12 : decode cX1_foresee 12 = .ok (.if_icmp .gt 71, 3) := by decide +kernel
theorem dX1_foresee_15 : decode cX1_foresee 15 = .ok (.iload_n 1, 1) := by decide +kernel
theorem dX1_foresee_16 : decode cX1_foresee 16 = .ok (.iload_n 2, 1) := by decide +kernel
theorem dX1_foresee_17 : decode cX1_foresee 17 = .ok (.iadd, 1) := by decide +kernel
theorem dX1_foresee_18 : decode cX1_foresee 18 = .ok (.iload 6, 2) := by decide +kernel
theorem dX1_foresee_20 : decode cX1_foresee 20 = .ok (.iload_n 3, 1) := by decide +kernel
theorem dX1_foresee_21 : decode cX1_foresee 21 = .ok (.imul, 1) := by decide +kernel
theorem dX1_foresee_22 : decode cX1_foresee 22 = .ok (.isub, 1) := by decide +kernel
theorem dX1_foresee_23 : decode cX1_foresee 23 = .ok (.istore 7, 2) := by decide +kernel
theorem dX1_foresee_25 : decode cX1_foresee 25 = .ok (.iload 7, 2) := by decide +kernel
theorem dX1_foresee_27 : decode cX1_foresee 27 = .ok (.iload_n 1, 1) := by decide +kernel
theorem dX1_foresee_28 : decode cX1_foresee 28 = .ok (.if_icmp .ge 49, 3) := by decide +kernel
theorem dX1_foresee_31 : decode cX1_foresee 31 = .ok (.iload 7, 2) := by decide +kernel
theorem dX1_foresee_33 : decode cX1_foresee 33 = .ok (.ifCond .lt 44, 3) := by decide +kernel
theorem dX1_foresee_36 : decode cX1_foresee 36 = .ok (.iload 7, 2) := by decide +kernel
theorem dX1_foresee_38 : decode cX1_foresee 38 = .ok (.iload_n 1, 1) := by decide +kernel
theorem dX1_foresee_39 : decode cX1_foresee 39 = .ok (.bipush 18, 2) := by decide +kernel
theorem dX1_foresee_41 : decode cX1_foresee 41 = .ok (.isub, 1) := by decide +kernel
theorem dX1_foresee_42 : decode cX1_foresee 42 = .ok (.if_icmp .lt 35, 3) := by decide +kernel
theorem dX1_foresee_45 : decode cX1_foresee 45 = .ok (.aload_n 0, 1) := by decide +kernel
theorem dX1_foresee_46 : decode cX1_foresee 46 = .ok (.getfield 21, 3) := by decide +kernel
theorem dX1_foresee_49 : decode cX1_foresee 49 = .ok (.iload 7, 2) := by decide +kernel
theorem dX1_foresee_51 : decode cX1_foresee 51 = .ok (.bipush 31, 2) := by decide +kernel
theorem dX1_foresee_53 : decode cX1_foresee 53 = .ok (.iand, 1) := by decide +kernel
theorem dX1_foresee_54 : decode cX1_foresee 54 = .ok (.iaload, 1) := by decide +kernel
theorem dX1_foresee_55 : decode cX1_foresee 55 = .ok (.iconst (-1), 1) := by decide +kernel
theorem dX1_foresee_56 : decode cX1_foresee 56 = .ok (.if_icmp .eq 21, 3) := by decide +kernel
theorem dX1_foresee_59 : decode cX1_foresee 59 = .ok (.iload 4, 2) := by decide +kernel
theorem dX1_foresee_61 : decode cX1_foresee 61 = .ok (.aload_n 0, 1) := by decide +kernel
theorem dX1_foresee_62 : decode cX1_foresee 62 = .ok (.getfield 21, 3) := by decide +kernel
theorem dX1_foresee_65 : decode cX1_foresee 65 = .ok (.iload 7, 2) := by decide +kernel
theorem dX1_foresee_67 : decode cX1_foresee 67 = .ok (.bipush 31, 2) := by decide +kernel
theorem dX1_foresee_69 : decode cX1_foresee 69 = .ok (.iand, 1) := by decide +kernel
theorem dX1_foresee_70 : decode cX1_foresee 70 = .ok (.iaload, 1) := by decide +kernel
theorem dX1_foresee_71 : decode cX1_foresee 71 = .ok (.iadd, 1) := by decide +kernel
theorem dX1_foresee_72 : decode cX1_foresee 72 = .ok (.istore 4, 2) := by decide +kernel
theorem dX1_foresee_74 : decode cX1_foresee 74 = .ok (.iinc 5 1, 3) := by decide +kernel
theorem dX1_foresee_77 : decode cX1_foresee 77 = .ok (.iinc 6 1, 3) := by decide +kernel
theorem dX1_foresee_80 : decode cX1_foresee 80 = .ok (.goto (-71), 3) := by decide +kernel
theorem dX1_foresee_83 : decode cX1_foresee 83 = .ok (.iload 4, 2) := by decide +kernel
theorem dX1_foresee_85 : decode cX1_foresee 85 = .ok (.iload 5, 2) := by decide +kernel
theorem dX1_foresee_87 : decode cX1_foresee 87 = .ok (.invokestatic 31, 3) := by decide +kernel
theorem dX1_foresee_90 : decode cX1_foresee 90 = .ok (.ireturn, 1) := by decide +kernel
theorem dX1_leastValue_0 : decode cX1_leastValue 0 = .ok (.aload_n 0, 1) := by decide +kernel
theorem dX1_leastValue_1 : decode cX1_leastValue 1 = .ok (.getfield 15, 3) := by decide +kernel
theorem dX1_leastValue_4 : decode cX1_leastValue 4 = .ok (.bipush 10, 2) := by decide +kernel
theorem dX1_leastValue_6 : decode cX1_leastValue 6 = .ok (.invokestatic 38, 3) := by decide +kernel
theorem dX1_leastValue_9 : decode cX1_leastValue 9 = .ok (.istore 5, 2) := by decide +kernel
theorem dX1_leastValue_11 : decode cX1_leastValue 11 = .ok (.aload_n 0, 1) := by decide +kernel
theorem dX1_leastValue_12 : decode cX1_leastValue 12 = .ok (.getfield 15, 3) := by decide +kernel
theorem dX1_leastValue_15 : decode cX1_leastValue 15 = .ok (.iload 5, 2) := by decide +kernel
theorem dX1_leastValue_17 : decode cX1_leastValue 17 = .ok (.isub, 1) := by decide +kernel
theorem dX1_leastValue_18 : decode cX1_leastValue 18 = .ok (.iconst 1, 1) := by decide +kernel
theorem dX1_leastValue_19 : decode cX1_leastValue 19 = .ok (.isub, 1) := by decide +kernel
theorem dX1_leastValue_20 : decode cX1_leastValue 20 = .ok (.istore 6, 2) := by decide +kernel
theorem dX1_leastValue_22 : decode cX1_leastValue 22 = .ok (.iconst 0, 1) := by decide +kernel
theorem dX1_leastValue_23 : decode cX1_leastValue 23 = .ok (.istore 7, 2) := by decide +kernel
theorem dX1_leastValue_25 : decode cX1_leastValue 25 = .ok (.iload 7, 2) := by decide +kernel
theorem dX1_leastValue_27 : decode cX1_leastValue 27 = .ok (.iconst 3, 1) := by decide +kernel
theorem dX1_leastValue_28 : decode cX1_leastValue 28 = .ok (.if_icmp .ge 55, 3) := by decide +kernel
theorem dX1_leastValue_31 : decode cX1_leastValue 31 = .ok (.aload_n 0, 1) := by decide +kernel
theorem dX1_leastValue_32 : decode cX1_leastValue 32 = .ok (.iload 6, 2) := by decide +kernel
theorem dX1_leastValue_34 : decode cX1_leastValue 34 = .ok (.iload_n 2, 1) := by decide +kernel
theorem dX1_leastValue_35 : decode cX1_leastValue 35 = .ok (.iload_n 3, 1) := by decide +kernel
theorem dX1_leastValue_36 : decode cX1_leastValue 36 = .ok (.iload 4, 2) := by decide +kernel
theorem dX1_leastValue_38 : decode cX1_leastValue 38 = .ok (.invokevirtual 41, 3) := by decide +kernel
theorem dX1_leastValue_41 : decode cX1_leastValue 41 = .ok (.iload_n 1, 1) := by decide +kernel
theorem dX1_leastValue_42 : decode cX1_leastValue 42 = .ok (.if_icmp .lt 15, 3) := by decide +kernel
theorem dX1_leastValue_45 : decode cX1_leastValue 45 = .ok (.aload_n 0, 1) := by decide +kernel
theorem dX1_leastValue_46 : decode cX1_leastValue 46 = .ok (.iload 6, 2) := by decide +kernel
theorem dX1_leastValue_48 : decode cX1_leastValue 48 = .ok (.iload_n 1, 1) := by decide +kernel
theorem dX1_leastValue_49 : decode cX1_leastValue 49 = .ok (.iload_n 2, 1) := by decide +kernel
theorem dX1_leastValue_50 : decode cX1_leastValue 50 = .ok (.iload_n 3, 1) := by decide +kernel
theorem dX1_leastValue_51 : decode cX1_leastValue 51 = .ok (.iload 4, 2) := by decide +kernel
theorem dX1_leastValue_53 : decode cX1_leastValue 53 = .ok (.invokevirtual 45, 3) := by decide +kernel
theorem dX1_leastValue_56 : decode cX1_leastValue 56 = .ok (.ireturn, 1) := by decide +kernel
theorem dX1_leastValue_57 : decode cX1_leastValue 57 = .ok (.iload 7, 2) := by decide +kernel
theorem dX1_leastValue_59 : decode cX1_leastValue 59 = .ok (.ifCond .ne 13, 3) := by decide +kernel
theorem dX1_leastValue_62 : decode cX1_leastValue 62 = .ok (.aload_n 0, 1) := by decide +kernel
theorem dX1_leastValue_63 : decode cX1_leastValue 63 = .ok (.getfield 15, 3) := by decide +kernel
theorem dX1_leastValue_66 : decode cX1_leastValue 66 = .ok (.iload 5, 2) := by decide +kernel
theorem dX1_leastValue_68 : decode cX1_leastValue 68 = .ok (.iadd, 1) := by decide +kernel
theorem dX1_leastValue_69 : decode cX1_leastValue 69 = .ok (.goto 6, 3) := by decide +kernel
theorem dX1_leastValue_72 : decode cX1_leastValue 72 = .ok (.sipush 9999, 3) := by decide +kernel
theorem dX1_leastValue_75 : decode cX1_leastValue 75 = .ok (.istore 6, 2) := by decide +kernel
theorem dX1_leastValue_77 : decode cX1_leastValue 77 = .ok (.iinc 7 1, 3) := by decide +kernel
theorem dX1_leastValue_80 : decode cX1_leastValue 80 = .ok (.goto (-55), 3) := by decide +kernel
theorem dX1_leastValue_83 : decode cX1_leastValue 83 = .ok (.iconst (-1), 1) := by decide +kernel
theorem dX1_leastValue_84 : decode cX1_leastValue 84 = .ok (.ireturn, 1) := by decide +kernel
theorem dX1_leastUpTo_0 : decode cX1_leastUpTo 0 = .ok (.iconst 0, 1) := by decide +kernel
theorem dX1_leastUpTo_1 : decode cX1_leastUpTo 1 = .ok (.istore 6, 2) := by decide +kernel
theorem dX1_leastUpTo_3 : decode cX1_leastUpTo 3 = .ok (.iload_n 1, 1) := by decide +kernel
theorem dX1_leastUpTo_4 : decode cX1_leastUpTo 4 = .ok (.istore 7, 2) := by decide +kernel
theorem dX1_leastUpTo_6 : decode cX1_leastUpTo 6 = .ok (.iconst 0, 1) := by decide +kernel
theorem dX1_leastUpTo_7 : decode cX1_leastUpTo 7 = .ok (.istore 8, 2) := by decide +kernel
theorem dX1_leastUpTo_9 : decode cX1_leastUpTo 9 = .ok (.iload 8, 2) := by decide +kernel
theorem dX1_leastUpTo_11 : decode cX1_leastUpTo 11 = .ok (.bipush 14, 2) := by decide +kernel
theorem dX1_leastUpTo_13 : decode cX1_leastUpTo 13 = .ok (.if_icmp .ge 53, 3) := by decide +kernel
theorem dX1_leastUpTo_16 : decode cX1_leastUpTo 16 = .ok (.iload 6, 2) := by decide +kernel
theorem dX1_leastUpTo_18 : decode cX1_leastUpTo 18 = .ok (.iload 7, 2) := by decide +kernel
theorem dX1_leastUpTo_20 : decode cX1_leastUpTo 20 = .ok (.if_icmp .ge 46, 3) := by decide +kernel
theorem dX1_leastUpTo_23 : decode cX1_leastUpTo 23 = .ok (.iload 6, 2) := by decide +kernel
theorem dX1_leastUpTo_25 : decode cX1_leastUpTo 25 = .ok (.iload 7, 2) := by decide +kernel
theorem dX1_leastUpTo_27 : decode cX1_leastUpTo 27 = .ok (.iadd, 1) := by decide +kernel
theorem dX1_leastUpTo_28 : decode cX1_leastUpTo 28 = .ok (.iconst 2, 1) := by decide +kernel
theorem dX1_leastUpTo_29 : decode cX1_leastUpTo 29 = .ok (.idiv, 1) := by decide +kernel
theorem dX1_leastUpTo_30 : decode cX1_leastUpTo 30 = .ok (.istore 9, 2) := by decide +kernel
theorem dX1_leastUpTo_32 : decode cX1_leastUpTo 32 = .ok (.aload_n 0, 1) := by decide +kernel
theorem dX1_leastUpTo_33 : decode cX1_leastUpTo 33 = .ok (.iload 9, 2) := by decide +kernel
theorem dX1_leastUpTo_35 : decode cX1_leastUpTo 35 = .ok (.iload_n 3, 1) := by decide +kernel
theorem dX1_leastUpTo_36 : decode cX1_leastUpTo 36 = .ok (.iload 4, 2) := by decide +kernel
theorem dX1_leastUpTo_38 : decode cX1_leastUpTo 38 = .ok (.iload 5, 2) := by decide +kernel
theorem dX1_leastUpTo_40 : decode cX1_leastUpTo 40 = .ok (.invokevirtual 41, 3) := by decide +kernel
theorem dX1_leastUpTo_43 : decode cX1_leastUpTo 43 = .ok (.iload_n 2, 1) := by decide +kernel
theorem dX1_leastUpTo_44 : decode cX1_leastUpTo 44 = .ok (.if_icmp .lt 10, 3) := by decide +kernel
theorem dX1_leastUpTo_47 : decode cX1_leastUpTo 47 = .ok (.iload 9, 2) := by decide +kernel
theorem dX1_leastUpTo_49 : decode cX1_leastUpTo 49 = .ok (.istore 7, 2) := by decide +kernel
theorem dX1_leastUpTo_51 : decode cX1_leastUpTo 51 = .ok (.goto 9, 3) := by decide +kernel
theorem dX1_leastUpTo_54 : decode cX1_leastUpTo 54 = .ok (.iload 9, 2) := by decide +kernel
theorem dX1_leastUpTo_56 : decode cX1_leastUpTo 56 = .ok (.iconst 1, 1) := by decide +kernel
theorem dX1_leastUpTo_57 : decode cX1_leastUpTo 57 = .ok (.iadd, 1) := by decide +kernel
theorem dX1_leastUpTo_58 : decode cX1_leastUpTo 58 = .ok (.istore 6, 2) := by decide +kernel
theorem dX1_leastUpTo_60 : decode cX1_leastUpTo 60 = .ok (.iinc 8 1, 3) := by decide +kernel
theorem dX1_leastUpTo_63 : decode cX1_leastUpTo 63 = .ok (.goto (-54), 3) := by decide +kernel
theorem dX1_leastUpTo_66 : decode cX1_leastUpTo 66 = .ok (.iload 7, 2) := by decide +kernel
theorem dX1_leastUpTo_68 : decode cX1_leastUpTo 68 = .ok (.ireturn, 1) := by decide +kernel
theorem dX2_init_0 : decode cX2_init 0 = .ok (.aload_n 0, 1) := by decide +kernel
theorem dX2_init_1 : decode cX2_init 1 = .ok (.invokespecial 3, 3) := by decide +kernel
theorem dX2_init_4 : decode cX2_init 4 = .ok (.aload_n 0, 1) := by decide +kernel
theorem dX2_init_5 : decode cX2_init 5 = .ok (.bipush 9, 2) := by decide +kernel
theorem dX2_init_7 : decode cX2_init 7 = .ok (.newarray .int, 2) := by decide +kernel
theorem dX2_init_9 : decode cX2_init 9 = .ok (.putfield 9, 3) := by decide +kernel
theorem dX2_init_12 : decode cX2_init 12 = .ok (.aload_n 0, 1) := by decide +kernel
theorem dX2_init_13 : decode cX2_init 13 = .ok (.iconst 3, 1) := by decide +kernel
theorem dX2_init_14 : decode cX2_init 14 = .ok (.anewarray 15, 3) := by decide +kernel
theorem dX2_init_17 : decode cX2_init 17 = .ok (.putfield 17, 3) := by decide +kernel
theorem dX2_init_20 : decode cX2_init 20 = .ok (.aload_n 0, 1) := by decide +kernel
theorem dX2_init_21 : decode cX2_init 21 = .ok (.iconst 0, 1) := by decide +kernel
theorem dX2_init_22 : decode cX2_init 22 = .ok (.putfield 21, 3) := by decide +kernel
theorem dX2_init_25 : decode cX2_init 25 = .ok (.aload_n 0, 1) := by decide +kernel
theorem dX2_init_26 : decode cX2_init 26 = .ok (.iconst 0, 1) := by decide +kernel
theorem dX2_init_27 : decode cX2_init 27 = .ok (.putfield 25, 3) := by decide +kernel
theorem dX2_init_30 : decode cX2_init 30 = .ok (.aload_n 0, 1) := by decide +kernel
theorem dX2_init_31 : decode cX2_init 31 = .ok (.iconst 0, 1) := by decide +kernel
theorem dX2_init_32 : decode cX2_init 32 = .ok (.putfield 28, 3) := by decide +kernel
theorem dX2_init_35 : decode cX2_init 35 = .ok (.aload_n 0, 1) := by decide +kernel
theorem dX2_init_36 : decode cX2_init 36 = .ok (.bipush 8, 2) := by decide +kernel
theorem dX2_init_38 : decode cX2_init 38 = .ok (.newarray .int, 2) := by decide +kernel
theorem dX2_init_40 : decode cX2_init 40 = .ok (.putfield 31, 3) := by decide +kernel
theorem dX2_init_43 : decode cX2_init 43 = .ok (.aload_n 0, 1) := by decide +kernel
theorem dX2_init_44 : decode cX2_init 44 = .ok (.bipush 8, 2) := by decide +kernel
theorem dX2_init_46 : decode cX2_init 46 = .ok (.newarray .int, 2) := by decide +kernel
theorem dX2_init_48 : decode cX2_init 48 = .ok (.putfield 34, 3) := by decide +kernel
theorem dX2_init_51 : decode cX2_init 51 = .ok (.aload_n 0, 1) := by decide +kernel
theorem dX2_init_52 : decode cX2_init 52 = .ok (.iconst 4, 1) := by decide +kernel
theorem dX2_init_53 : decode cX2_init 53 = .ok (.newarray .int, 2) := by decide +kernel
theorem dX2_init_55 : decode cX2_init 55 = .ok (.putfield 37, 3) := by decide +kernel
theorem dX2_init_58 : decode cX2_init 58 = .ok (.aload_n 0, 1) := by decide +kernel
theorem dX2_init_59 : decode cX2_init 59 = .ok (.iconst 0, 1) := by decide +kernel
theorem dX2_init_60 : decode cX2_init 60 = .ok (.putfield 40, 3) := by decide +kernel
theorem dX2_init_63 : decode cX2_init 63 = .ok (.aload_n 0, 1) := by decide +kernel
theorem dX2_init_64 : decode cX2_init 64 = .ok (.iconst 0, 1) := by decide +kernel
theorem dX2_init_65 : decode cX2_init 65 = .ok (.putfield 43, 3) := by decide +kernel
theorem dX2_init_68 : decode cX2_init 68 = .ok (.aload_n 0, 1) := by decide +kernel
theorem dX2_init_69 : decode cX2_init 69 = .ok (.iconst 0, 1) := by decide +kernel
theorem dX2_init_70 : decode cX2_init 70 = .ok (.putfield 46, 3) := by decide +kernel
theorem dX2_init_73 : decode cX2_init 73 = .ok (.aload_n 0, 1) := by decide +kernel
theorem dX2_init_74 : decode cX2_init 74 = .ok (.iconst 0, 1) := by decide +kernel
theorem dX2_init_75 : decode cX2_init 75 = .ok (.putfield 49, 3) := by decide +kernel
theorem dX2_init_78 : decode cX2_init 78 = .ok (.aload_n 0, 1) := by decide +kernel
theorem dX2_init_79 : decode cX2_init 79 = .ok (.iconst 0, 1) := by decide +kernel
theorem dX2_init_80 : decode cX2_init 80 = .ok (.putfield 52, 3) := by decide +kernel
theorem dX2_init_83 : decode cX2_init 83 = .ok (.aload_n 0, 1) := by decide +kernel
theorem dX2_init_84 : decode cX2_init 84 = .ok (.iconst 0, 1) := by decide +kernel
theorem dX2_init_85 : decode cX2_init 85 = .ok (.putfield 55, 3) := by decide +kernel
theorem dX2_init_88 : decode cX2_init 88 = .ok (.aload_n 0, 1) := by decide +kernel
theorem dX2_init_89 : decode cX2_init 89 = .ok (.iconst 0, 1) := by decide +kernel
theorem dX2_init_90 : decode cX2_init 90 = .ok (.putfield 58, 3) := by decide +kernel
theorem dX2_init_93 : decode cX2_init 93 = .ok (.aload_n 0, 1) := by decide +kernel
theorem dX2_init_94 : decode cX2_init 94 = .ok (.iconst 0, 1) := by decide +kernel
theorem dX2_init_95 : decode cX2_init 95 = .ok (.putfield 61, 3) := by decide +kernel
theorem dX2_init_98 : decode cX2_init 98 = .ok (.aload_n 0, 1) := by decide +kernel
theorem dX2_init_99 : decode cX2_init 99 = .ok (.iconst (-1), 1) := by decide +kernel
theorem dX2_init_100 : decode cX2_init 100 = .ok (.putfield 64, 3) := by decide +kernel
theorem dX2_init_103 : decode cX2_init 103 = .ok (.iconst 0, 1) := by decide +kernel
theorem dX2_init_104 : decode cX2_init 104 = .ok (.istore_n 1, 1) := by decide +kernel
theorem dX2_init_105 : decode cX2_init 105 = .ok (.iload_n 1, 1) := by decide +kernel
theorem dX2_init_106 : decode cX2_init 106 = .ok (.iconst 3, 1) := by decide +kernel
theorem dX2_init_107 : decode cX2_init 107 = .ok (.if_icmp .ge 22, 3) := by decide +kernel
theorem dX2_init_110 : decode cX2_init 110 = .ok (.aload_n 0, 1) := by decide +kernel
theorem dX2_init_111 : decode cX2_init 111 = .ok (.getfield 17, 3) := by decide +kernel
theorem dX2_init_114 : decode cX2_init 114 = .ok (.iload_n 1, 1) := by decide +kernel
theorem dX2_init_115 : decode cX2_init 115 = .ok (.new 15, 3) := by decide +kernel
theorem dX2_init_118 : decode cX2_init 118 = .ok (.dup, 1) := by decide +kernel
theorem dX2_init_119 : decode cX2_init 119 = .ok (.invokespecial 67, 3) := by decide +kernel
theorem dX2_init_122 : decode cX2_init 122 = .ok (.aastore, 1) := by decide +kernel
theorem dX2_init_123 : decode cX2_init 123 = .ok (.iinc 1 1, 3) := by decide +kernel
theorem dX2_init_126 : decode cX2_init 126 = .ok (.goto (-21), 3) := by decide +kernel
theorem dX2_init_129 : decode cX2_init 129 = .ok (.return_, 1) := by decide +kernel
theorem dX2_begin_0 : decode cX2_begin 0 = .ok (.aload_n 0, 1) := by decide +kernel
theorem dX2_begin_1 : decode cX2_begin 1 = .ok (.aload_n 0, 1) := by decide +kernel
theorem dX2_begin_2 : decode cX2_begin 2 = .ok (.getfield 9, 3) := by decide +kernel
theorem dX2_begin_5 : decode cX2_begin 5 = .ok (.iconst 0, 1) := by decide +kernel
theorem dX2_begin_6 : decode cX2_begin 6 = .ok (.iaload, 1) := by decide +kernel
theorem dX2_begin_7 : decode cX2_begin 7 = .ok (.putfield 25, 3) := by decide +kernel
theorem dX2_begin_10 : decode cX2_begin 10 = .ok (.aload_n 0, 1) := by decide +kernel
theorem dX2_begin_11 : decode cX2_begin 11 = .ok (.aload_n 0, 1) := by decide +kernel
theorem dX2_begin_12 : decode cX2_begin 12 = .ok (.getfield 25, 3) := by decide +kernel
theorem dX2_begin_15 : decode cX2_begin 15 = .ok (.putfield 28, 3) := by decide +kernel
theorem dX2_begin_18 : decode cX2_begin 18 = .ok (.aload_n 0, 1) := by decide +kernel
theorem dX2_begin_19 : decode cX2_begin 19 = .ok (.getfield 31, 3) := by decide +kernel
theorem dX2_begin_22 : decode cX2_begin 22 = .ok (.iconst 0, 1) := by decide +kernel
theorem dX2_begin_23 : decode cX2_begin 23 = .ok (.invokestatic 68, 3) := by decide +kernel
theorem dX2_begin_26 : decode cX2_begin 26 = .ok (.aload_n 0, 1) := by decide +kernel
theorem dX2_begin_27 : decode cX2_begin 27 = .ok (.iconst 0, 1) := by decide +kernel
theorem dX2_begin_28 : decode cX2_begin 28 = .ok (.putfield 40, 3) := by decide +kernel
theorem dX2_begin_31 : decode cX2_begin 31 = .ok (.aload_n 0, 1) := by decide +kernel
theorem dX2_begin_32 : decode cX2_begin 32 = .ok (.iconst 0, 1) := by decide +kernel
theorem dX2_begin_33 : decode cX2_begin 33 = .ok (.putfield 43, 3) := by decide +kernel
theorem dX2_begin_36 : decode cX2_begin 36 = .ok (.aload_n 0, 1) := by decide +kernel
theorem dX2_begin_37 : decode cX2_begin 37 = .ok (.iconst 0, 1) := by decide +kernel
theorem dX2_begin_38 : decode cX2_begin 38 = .ok (.putfield 46, 3) := by decide +kernel
theorem dX2_begin_41 : decode cX2_begin 41 = .ok (.aload_n 0, 1) := by decide +kernel
theorem dX2_begin_42 : decode cX2_begin 42 = .ok (.iconst 0, 1) := by decide +kernel
theorem dX2_begin_43 : decode cX2_begin 43 = .ok (.putfield 49, 3) := by decide +kernel
theorem dX2_begin_46 : decode cX2_begin 46 = .ok (.iconst 0, 1) := by decide +kernel
theorem dX2_begin_47 : decode cX2_begin 47 = .ok (.istore_n 1, 1) := by decide +kernel
theorem dX2_begin_48 : decode cX2_begin 48 = .ok (.iload_n 1, 1) := by decide +kernel
theorem dX2_begin_49 : decode cX2_begin 49 = .ok (.aload_n 0, 1) := by decide +kernel
theorem dX2_begin_50 : decode cX2_begin 50 = .ok (.getfield 21, 3) := by decide +kernel
theorem dX2_begin_53 : decode cX2_begin 53 = .ok (.if_icmp .ge 19, 3) := by decide +kernel
theorem dX2_begin_56 : decode cX2_begin 56 = .ok (.aload_n 0, 1) := by decide +kernel
theorem dX2_begin_57 : decode cX2_begin 57 = .ok (.getfield 17, 3) := by decide +kernel
theorem dX2_begin_60 : decode cX2_begin 60 = .ok (.iload_n 1, 1) := by decide +kernel
theorem dX2_begin_61 : decode cX2_begin 61 = .ok (.aaload, 1) := by decide +kernel
theorem dX2_begin_62 : decode cX2_begin 62 = .ok (.iconst (-1), 1) := by decide +kernel
theorem dX2_begin_63 : decode cX2_begin 63 = .ok (.putfield 74, 3) := by decide +kernel
theorem dX2_begin_66 : decode cX2_begin 66 = .ok (.iinc 1 1, 3) := by decide +kernel
theorem dX2_begin_69 : decode cX2_begin 69 = .ok (.goto (-21), 3) := by decide +kernel
theorem dX2_begin_72 : decode cX2_begin 72 = .ok (.return_, 1) := by decide +kernel
theorem dX2_copyFrom_0 : decode cX2_copyFrom 0 = .ok (.aload_n 0, 1) := by decide +kernel
theorem dX2_copyFrom_1 : decode cX2_copyFrom 1 = .ok (.aload_n 1, 1) := by decide +kernel
theorem dX2_copyFrom_2 : decode cX2_copyFrom 2 = .ok (.invokevirtual 77, 3) := by decide +kernel
theorem dX2_copyFrom_5 : decode cX2_copyFrom 5 = .ok (.aload_n 0, 1) := by decide +kernel
theorem dX2_copyFrom_6 : decode cX2_copyFrom 6 = .ok (.aload_n 1, 1) := by decide +kernel
theorem dX2_copyFrom_7 : decode cX2_copyFrom 7 = .ok (.getfield 25, 3) := by decide +kernel
theorem dX2_copyFrom_10 : decode cX2_copyFrom 10 = .ok (.putfield 25, 3) := by decide +kernel
theorem dX2_copyFrom_13 : decode cX2_copyFrom 13 = .ok (.aload_n 0, 1) := by decide +kernel
theorem dX2_copyFrom_14 : decode cX2_copyFrom 14 = .ok (.aload_n 1, 1) := by decide +kernel
theorem dX2_copyFrom_15 : decode cX2_copyFrom 15 = .ok (.getfield 28, 3) := by decide +kernel
theorem dX2_copyFrom_18 : decode cX2_copyFrom 18 = .ok (.putfield 28, 3) := by decide +kernel
theorem dX2_copyFrom_21 : decode cX2_copyFrom 21 = .ok (.aload_n 1, 1) := by decide +kernel
theorem dX2_copyFrom_22 : decode cX2_copyFrom 22 = .ok (.getfield 31, 3) := by decide +kernel
theorem dX2_copyFrom_25 : decode cX2_copyFrom 25 = .ok (.iconst 0, 1) := by decide +kernel
theorem dX2_copyFrom_26 : decode cX2_copyFrom 26 = .ok (.aload_n 0, 1) := by decide +kernel
theorem dX2_copyFrom_27 : decode cX2_copyFrom 27 = .ok (.getfield 31, 3) := by decide +kernel
theorem dX2_copyFrom_30 : decode cX2_copyFrom 30 = .ok (.iconst 0, 1) := by decide +kernel
theorem dX2_copyFrom_31 : decode cX2_copyFrom 31 = .ok (.bipush 8, 2) := by decide +kernel
theorem dX2_copyFrom_33 : decode cX2_copyFrom 33 = .ok (.invokestatic 81, 3) := by decide +kernel
theorem dX2_copyFrom_36 : decode cX2_copyFrom 36 = .ok (.aload_n 1, 1) := by decide +kernel
theorem dX2_copyFrom_37 : decode cX2_copyFrom 37 = .ok (.getfield 34, 3) := by decide +kernel
theorem dX2_copyFrom_40 : decode cX2_copyFrom 40 = .ok (.iconst 0, 1) := by decide +kernel
theorem dX2_copyFrom_41 : decode cX2_copyFrom 41 = .ok (.aload_n 0, 1) := by decide +kernel
theorem dX2_copyFrom_42 : decode cX2_copyFrom 42 = .ok (.getfield 34, 3) := by decide +kernel
theorem dX2_copyFrom_45 : decode cX2_copyFrom 45 = .ok (.iconst 0, 1) := by decide +kernel
theorem dX2_copyFrom_46 : decode cX2_copyFrom 46 = .ok (.bipush 8, 2) := by decide +kernel
theorem dX2_copyFrom_48 : decode cX2_copyFrom 48 = .ok (.invokestatic 81, 3) := by decide +kernel
theorem dX2_copyFrom_51 : decode cX2_copyFrom 51 = .ok (.aload_n 1, 1) := by decide +kernel
theorem dX2_copyFrom_52 : decode cX2_copyFrom 52 = .ok (.getfield 37, 3) := by decide +kernel
theorem dX2_copyFrom_55 : decode cX2_copyFrom 55 = .ok (.iconst 0, 1) := by decide +kernel
theorem dX2_copyFrom_56 : decode cX2_copyFrom 56 = .ok (.aload_n 0, 1) := by decide +kernel
theorem dX2_copyFrom_57 : decode cX2_copyFrom 57 = .ok (.getfield 37, 3) := by decide +kernel
theorem dX2_copyFrom_60 : decode cX2_copyFrom 60 = .ok (.iconst 0, 1) := by decide +kernel
theorem dX2_copyFrom_61 : decode cX2_copyFrom 61 = .ok (.iconst 4, 1) := by decide +kernel
theorem dX2_copyFrom_62 : decode cX2_copyFrom 62 = .ok (.invokestatic 81, 3) := by decide +kernel
theorem dX2_copyFrom_65 : decode cX2_copyFrom 65 = .ok (.aload_n 0, 1) := by decide +kernel
theorem dX2_copyFrom_66 : decode cX2_copyFrom 66 = .ok (.aload_n 1, 1) := by decide +kernel
theorem dX2_copyFrom_67 : decode cX2_copyFrom 67 = .ok (.getfield 40, 3) := by decide +kernel
theorem dX2_copyFrom_70 : decode cX2_copyFrom 70 = .ok (.putfield 40, 3) := by decide +kernel
theorem dX2_copyFrom_73 : decode cX2_copyFrom 73 = .ok (.aload_n 0, 1) := by decide +kernel
theorem dX2_copyFrom_74 : decode cX2_copyFrom 74 = .ok (.aload_n 1, 1) := by decide +kernel
theorem dX2_copyFrom_75 : decode cX2_copyFrom 75 = .ok (.getfield 43, 3) := by decide +kernel
theorem dX2_copyFrom_78 : decode cX2_copyFrom 78 = .ok (.putfield 43, 3) := by decide +kernel
theorem dX2_copyFrom_81 : decode cX2_copyFrom 81 = .ok (.aload_n 0, 1) := by decide +kernel
theorem dX2_copyFrom_82 : decode cX2_copyFrom 82 = .ok (.aload_n 1, 1) := by decide +kernel
theorem dX2_copyFrom_83 : decode cX2_copyFrom 83 = .ok (.getfield 46, 3) := by decide +kernel
theorem dX2_copyFrom_86 : decode cX2_copyFrom 86 = .ok (.putfield 46, 3) := by decide +kernel
theorem dX2_copyFrom_89 : decode cX2_copyFrom 89 = .ok (.aload_n 0, 1) := by decide +kernel
theorem dX2_copyFrom_90 : decode cX2_copyFrom 90 = .ok (.aload_n 1, 1) := by decide +kernel
theorem dX2_copyFrom_91 : decode cX2_copyFrom 91 = .ok (.getfield 49, 3) := by decide +kernel
theorem dX2_copyFrom_94 : decode cX2_copyFrom 94 = .ok (.putfield 49, 3) := by decide +kernel
theorem dX2_copyFrom_97 : decode cX2_copyFrom 97 = .ok (.iconst 0, 1) := by decide +kernel
theorem dX2_copyFrom_98 : decode cX2_copyFrom 98 = .ok (.istore_n 2, 1) := by decide +kernel
theorem dX2_copyFrom_99 : decode cX2_copyFrom 99 = .ok (.iload_n 2, 1) := by decide +kernel
theorem dX2_copyFrom_100 : decode cX2_copyFrom 100 = .ok (.aload_n 0, 1) := by decide +kernel
theorem dX2_copyFrom_101 : decode cX2_copyFrom 101 = .ok (.getfield 21, 3) := by decide +kernel
theorem dX2_copyFrom_104 : decode cX2_copyFrom 104 = .ok (.if_icmp .ge 52, 3) := by decide +kernel
theorem dX2_copyFrom_107 : decode cX2_copyFrom 107 = .ok (.aload_n 0, 1) := by decide +kernel
theorem dX2_copyFrom_108 : decode cX2_copyFrom 108 = .ok (.getfield 17, 3) := by decide +kernel
theorem dX2_copyFrom_111 : decode cX2_copyFrom 111 = .ok (.iload_n 2, 1) := by decide +kernel
theorem dX2_copyFrom_112 : decode cX2_copyFrom 112 = .ok (.aaload, 1) := by decide +kernel
theorem dX2_copyFrom_113 : decode cX2_copyFrom 113 = .ok (.aload_n 1, 1) := by decide +kernel
theorem dX2_copyFrom_114 : decode cX2_copyFrom 114 = .ok (.getfield 17, 3) := by decide +kernel
theorem dX2_copyFrom_117 : decode cX2_copyFrom 117 = .ok (.iload_n 2, 1) := by decide +kernel
theorem dX2_copyFrom_118 : decode cX2_copyFrom 118 = .ok (.aaload, 1) := by decide +kernel
theorem dX2_copyFrom_119 : decode cX2_copyFrom 119 = .ok (.getfield 74, 3) := by decide +kernel
theorem dX2_copyFrom_122 : decode cX2_copyFrom 122 = .ok (.putfield 74, 3) := by decide +kernel
theorem dX2_copyFrom_125 : decode cX2_copyFrom 125 = .ok (.aload_n 1, 1) := by decide +kernel
theorem dX2_copyFrom_126 : decode cX2_copyFrom 126 = .ok (.getfield 17, 3) := by decide +kernel
theorem dX2_copyFrom_129 : decode cX2_copyFrom 129 = .ok (.iload_n 2, 1) := by decide +kernel
theorem dX2_copyFrom_130 : decode cX2_copyFrom 130 = .ok (.aaload, 1) := by decide +kernel
theorem dX2_copyFrom_131 : decode cX2_copyFrom 131 = .ok (.getfield 87, 3) := by decide +kernel
theorem dX2_copyFrom_134 : decode cX2_copyFrom 134 = .ok (.iconst 0, 1) := by decide +kernel
theorem dX2_copyFrom_135 : decode cX2_copyFrom 135 = .ok (.aload_n 0, 1) := by decide +kernel
theorem dX2_copyFrom_136 : decode cX2_copyFrom 136 = .ok (.getfield 17, 3) := by decide +kernel
theorem dX2_copyFrom_139 : decode cX2_copyFrom 139 = .ok (.iload_n 2, 1) := by decide +kernel
theorem dX2_copyFrom_140 : decode cX2_copyFrom 140 = .ok (.aaload, 1) := by decide +kernel
theorem dX2_copyFrom_141 : decode cX2_copyFrom 141 = .ok (.getfield 87, 3) := by decide +kernel
theorem dX2_copyFrom_144 : decode cX2_copyFrom 144 = .ok (.iconst 0, 1) := by decide +kernel
theorem dX2_copyFrom_145 : decode cX2_copyFrom 145 = .ok (.bipush 32, 2) := by decide +kernel
theorem dX2_copyFrom_147 : decode cX2_copyFrom 147 = .ok (.invokestatic 81, 3) := by decide +kernel
theorem dX2_copyFrom_150 : decode cX2_copyFrom 150 = .ok (.iinc 2 1, 3) := by decide +kernel
theorem dX2_copyFrom_153 : decode cX2_copyFrom 153 = .ok (.goto (-54), 3) := by decide +kernel
theorem dX2_copyFrom_156 : decode cX2_copyFrom 156 = .ok (.return_, 1) := by decide +kernel
theorem dX2_takeShape_0 : decode cX2_takeShape 0 = .ok (.aload_n 1, 1) := by decide +kernel
theorem dX2_takeShape_1 : decode cX2_takeShape 1 = .ok (.getfield 9, 3) := by decide +kernel
theorem dX2_takeShape_4 : decode cX2_takeShape 4 = .ok (.iconst 0, 1) := by decide +kernel
theorem dX2_takeShape_5 : decode cX2_takeShape 5 = .ok (.aload_n 0, 1) := by decide +kernel
theorem dX2_takeShape_6 : decode cX2_takeShape 6 = .ok (.getfield 9, 3) := by decide +kernel
theorem dX2_takeShape_9 : decode cX2_takeShape 9 = .ok (.iconst 0, 1) := by decide +kernel
theorem dX2_takeShape_10 : decode cX2_takeShape 10 = .ok (.bipush 9, 2) := by decide +kernel
theorem dX2_takeShape_12 : decode cX2_takeShape 12 = .ok (.invokestatic 81, 3) := by decide +kernel
theorem dX2_takeShape_15 : decode cX2_takeShape 15 = .ok (.aload_n 0, 1) := by decide +kernel
theorem dX2_takeShape_16 : decode cX2_takeShape 16 = .ok (.aload_n 1, 1) := by decide +kernel
theorem dX2_takeShape_17 : decode cX2_takeShape 17 = .ok (.getfield 21, 3) := by decide +kernel
theorem dX2_takeShape_20 : decode cX2_takeShape 20 = .ok (.putfield 21, 3) := by decide +kernel
theorem dX2_takeShape_23 : decode cX2_takeShape 23 = .ok (.iconst 0, 1) := by decide +kernel
theorem dX2_takeShape_24 : decode cX2_takeShape 24 = .ok (.istore_n 2, 1) := by decide +kernel
theorem dX2_takeShape_25 : decode cX2_takeShape 25 = .ok (.iload_n 2, 1) := by decide +kernel
theorem dX2_takeShape_26 : decode cX2_takeShape 26 = .ok (.aload_n 0, 1) := by decide +kernel
theorem dX2_takeShape_27 : decode cX2_takeShape 27 = .ok (.getfield 21, 3) := by decide +kernel
theorem dX2_takeShape_30 : decode cX2_takeShape 30 = .ok (.if_icmp .ge 45, 3) := by decide +kernel
theorem dX2_takeShape_33 : decode cX2_takeShape 33 = .ok (.aload_n 0, 1) := by decide +kernel
theorem dX2_takeShape_34 : decode cX2_takeShape 34 = .ok (.getfield 17, 3) := by decide +kernel
theorem dX2_takeShape_37 : decode cX2_takeShape 37 = .ok (.iload_n 2, 1) := by decide +kernel
theorem dX2_takeShape_38 : decode cX2_takeShape 38 = .ok (.aaload, 1) := by decide +kernel
theorem dX2_takeShape_39 : decode cX2_takeShape 39 = .ok (.aload_n 1, 1) := by decide +kernel
theorem dX2_takeShape_40 : decode cX2_takeShape 40 = .ok (.getfield 17, 3) := by decide +kernel
theorem dX2_takeShape_43 : decode cX2_takeShape 43 = .ok (.iload_n 2, 1) := by decide +kernel
theorem dX2_takeShape_44 : decode cX2_takeShape 44 = .ok (.aaload, 1) := by decide +kernel
theorem dX2_takeShape_45 : decode cX2_takeShape 45 = .ok (.getfield 90, 3) := by decide +kernel
theorem dX2_takeShape_48 : decode cX2_takeShape 48 = .ok (.putfield 90, 3) := by decide +kernel
theorem dX2_takeShape_51 : decode cX2_takeShape 51 = .ok (.aload_n 0, 1) := by decide +kernel
theorem dX2_takeShape_52 : decode cX2_takeShape 52 = .ok (.getfield 17, 3) := by decide +kernel
theorem dX2_takeShape_55 : decode cX2_takeShape 55 = .ok (.iload_n 2, 1) := by decide +kernel
theorem dX2_takeShape_56 : decode cX2_takeShape 56 = .ok (.aaload, 1) := by decide +kernel
theorem dX2_takeShape_57 : decode cX2_takeShape 57 = .ok (.aload_n 1, 1) := by decide +kernel
theorem dX2_takeShape_58 : decode cX2_takeShape 58 = .ok (.getfield 17, 3) := by decide +kernel
theorem dX2_takeShape_61 : decode cX2_takeShape 61 = .ok (.iload_n 2, 1) := by decide +kernel
theorem dX2_takeShape_62 : decode cX2_takeShape 62 = .ok (.aaload, 1) := by decide +kernel
theorem dX2_takeShape_63 : decode cX2_takeShape 63 = .ok (.getfield 93, 3) := by decide +kernel
theorem dX2_takeShape_66 : decode cX2_takeShape 66 = .ok (.putfield 93, 3) := by decide +kernel
theorem dX2_takeShape_69 : decode cX2_takeShape 69 = .ok (.iinc 2 1, 3) := by decide +kernel
theorem dX2_takeShape_72 : decode cX2_takeShape 72 = .ok (.goto (-47), 3) := by decide +kernel
theorem dX2_takeShape_75 : decode cX2_takeShape 75 = .ok (.return_, 1) := by decide +kernel
theorem dX2_tellValues_0 : decode cX2_tellValues 0 = .ok (.iconst 0, 1) := by decide +kernel
theorem dX2_tellValues_1 : decode cX2_tellValues 1 = .ok (.istore_n 3, 1) := by decide +kernel
theorem dX2_tellValues_2 : decode cX2_tellValues 2 = .ok (.iload_n 3, 1) := by decide +kernel
theorem dX2_tellValues_3 : decode cX2_tellValues 3 = .ok (.aload_n 0, 1) := by decide +kernel
theorem dX2_tellValues_4 : decode cX2_tellValues 4 = .ok (.getfield 21, 3) := by decide +kernel
theorem dX2_tellValues_7 : decode cX2_tellValues 7 = .ok (.if_icmp .ge 32, 3) := by decide +kernel
theorem dX2_tellValues_10 : decode cX2_tellValues 10 = .ok (.aload_n 0, 1) := by decide +kernel
theorem dX2_tellValues_11 : decode cX2_tellValues 11 = .ok (.getfield 17, 3) := by decide +kernel
theorem dX2_tellValues_14 : decode cX2_tellValues 14 = .ok (.iload_n 3, 1) := by decide +kernel
theorem dX2_tellValues_15 : decode cX2_tellValues 15 = .ok (.aaload, 1) := by decide +kernel
theorem dX2_tellValues_16 : decode cX2_tellValues 16 = .ok (.aload_n 1, 1) := by decide +kernel
theorem dX2_tellValues_17 : decode cX2_tellValues 17 = .ok (.getfield 17, 3) := by decide +kernel
theorem dX2_tellValues_20 : decode cX2_tellValues 20 = .ok (.iload_n 3, 1) := by decide +kernel
theorem dX2_tellValues_21 : decode cX2_tellValues 21 = .ok (.aaload, 1) := by decide +kernel
theorem dX2_tellValues_22 : decode cX2_tellValues 22 = .ok (.getfield 87, 3) := by decide +kernel
theorem dX2_tellValues_25 : decode cX2_tellValues 25 = .ok (.iload_n 2, 1) := by decide +kernel
theorem dX2_tellValues_26 : decode cX2_tellValues 26 = .ok (.bipush 31, 2) := by decide +kernel
theorem dX2_tellValues_28 : decode cX2_tellValues 28 = .ok (.iand, 1) := by decide +kernel
theorem dX2_tellValues_29 : decode cX2_tellValues 29 = .ok (.iaload, 1) := by decide +kernel
theorem dX2_tellValues_30 : decode cX2_tellValues 30 = .ok (.putfield 74, 3) := by decide +kernel
theorem dX2_tellValues_33 : decode cX2_tellValues 33 = .ok (.iinc 3 1, 3) := by decide +kernel
theorem dX2_tellValues_36 : decode cX2_tellValues 36 = .ok (.goto (-34), 3) := by decide +kernel
theorem dX2_tellValues_39 : decode cX2_tellValues 39 = .ok (.return_, 1) := by decide +kernel
theorem dX2_readyIn_0 : decode cX2_readyIn 0 = .ok (.aload_n 0, 1) := by decide +kernel
theorem dX2_readyIn_1 : decode cX2_readyIn 1 = .ok (.getfield 28, 3) := by decide +kernel
theorem dX2_readyIn_4 : decode cX2_readyIn 4 = .ok (.aload_n 0, 1) := by decide +kernel
theorem dX2_readyIn_5 : decode cX2_readyIn 5 = .ok (.getfield 31, 3) := by decide +kernel
theorem dX2_readyIn_8 : decode cX2_readyIn 8 = .ok (.iload_n 1, 1) := by decide +kernel
theorem dX2_readyIn_9 : decode cX2_readyIn 9 = .ok (.bipush 7, 2) := by decide +kernel
theorem dX2_readyIn_11 : decode cX2_readyIn 11 = .ok (.iand, 1) := by decide +kernel
theorem dX2_readyIn_12 : decode cX2_readyIn 12 = .ok (.iaload, 1) := by decide +kernel
theorem dX2_readyIn_13 : decode cX2_readyIn 13 = .ok (.iadd, 1) := by decide +kernel
theorem dX2_readyIn_14 : decode cX2_readyIn 14 = .ok (.ireturn, 1) := by decide +kernel
theorem dX2_nextReadyRound_0 : decode cX2_nextReadyRound 0 = .ok (.iconst 0, 1) := by decide +kernel
theorem dX2_nextReadyRound_1 : decode cX2_nextReadyRound 1 = .ok (.istore_n 2, 1) := by decide +kernel
theorem dX2_nextReadyRound_2 : decode cX2_nextReadyRound 2 = .ok (.iload_n 2, 1) := by decide +kernel
theorem dX2_nextReadyRound_3 : decode cX2_nextReadyRound 3 = .ok (.bipush 6, 2) := by decide +kernel
theorem dX2_nextReadyRound_5 : decode cX2_nextReadyRound 5 = .ok (.if_icmp .gt 27, 3) := by decide +kernel
theorem dX2_nextReadyRound_8 : decode cX2_nextReadyRound 8 = .ok (.aload_n 0, 1) := by decide +kernel
theorem dX2_nextReadyRound_9 : decode cX2_nextReadyRound 9 = .ok (.getfield 31, 3) := by decide +kernel
theorem dX2_nextReadyRound_12 : decode cX2_nextReadyRound 12 = .ok (.iload_n 1, 1) := by decide +kernel
theorem dX2_nextReadyRound_13 : decode cX2_nextReadyRound 13 = .ok (.iload_n 2, 1) := by decide +kernel
theorem dX2_nextReadyRound_14 : decode cX2_nextReadyRound 14 = .ok (.iadd, 1) := by decide +kernel
theorem dX2_nextReadyRound_15 : decode cX2_nextReadyRound 15 = .ok (.bipush 7, 2) := by decide +kernel
theorem dX2_nextReadyRound_17 : decode cX2_nextReadyRound 17 = .ok (.iand, 1) := by decide +kernel
theorem dX2_nextReadyRound_18 : decode cX2_nextReadyRound 18 = .ok (.iaload, 1) := by decide +kernel
theorem dX2_nextReadyRound_19 : decode cX2_nextReadyRound 19 = .ok (.ifCond .le 7, 3) := by decide +kernel
theorem dX2_nextReadyRound_22 : decode cX2_nextReadyRound 22 = .ok (.iload_n 1, 1) := by decide +kernel
theorem dX2_nextReadyRound_23 : decode cX2_nextReadyRound 23 = .ok (.iload_n 2, 1) := by decide +kernel
theorem dX2_nextReadyRound_24 : decode cX2_nextReadyRound 24 = .ok (.iadd, 1) := by decide +kernel
theorem dX2_nextReadyRound_25 : decode cX2_nextReadyRound 25 = .ok (.ireturn, 1) := by decide +kernel
theorem dX2_nextReadyRound_26 : decode cX2_nextReadyRound 26 = .ok (.iinc 2 1, 3) := by decide +kernel
theorem dX2_nextReadyRound_29 : decode cX2_nextReadyRound 29 = .ok (.goto (-27), 3) := by decide +kernel
theorem dX2_nextReadyRound_32 : decode cX2_nextReadyRound 32 = .ok (.iconst (-1), 1) := by decide +kernel
theorem dX2_nextReadyRound_33 : decode cX2_nextReadyRound 33 = .ok (.ireturn, 1) := by decide +kernel
theorem dX2_wake_0 : decode cX2_wake 0 = .ok (.aload_n 0, 1) := by decide +kernel
theorem dX2_wake_1 : decode cX2_wake 1 = .ok (.dup, 1) := by decide +kernel
theorem dX2_wake_2 : decode cX2_wake 2 = .ok (.getfield 28, 3) := by decide +kernel
theorem dX2_wake_5 : decode cX2_wake 5 = .ok (.aload_n 0, 1) := by decide +kernel
theorem dX2_wake_6 : decode cX2_wake 6 = .ok (.getfield 31, 3) := by decide +kernel
theorem dX2_wake_9 : decode cX2_wake 9 = .ok (.iload_n 1, 1) := by decide +kernel
theorem dX2_wake_10 : decode cX2_wake 10 = .ok (.bipush 7, 2) := by decide +kernel
theorem dX2_wake_12 : decode cX2_wake 12 = .ok (.iand, 1) := by decide +kernel
theorem dX2_wake_13 : decode cX2_wake 13 = .ok (.iaload, 1) := by decide +kernel
theorem dX2_wake_14 : decode cX2_wake 14 = .ok (.iadd, 1) := by decide +kernel
theorem dX2_wake_15 : decode cX2_wake 15 = .ok (.putfield 28, 3) := by decide +kernel
theorem dX2_wake_18 : decode cX2_wake 18 = .ok (.aload_n 0, 1) := by decide +kernel
theorem dX2_wake_19 : decode cX2_wake 19 = .ok (.getfield 31, 3) := by decide +kernel
theorem dX2_wake_22 : decode cX2_wake 22 = .ok (.iload_n 1, 1) := by decide +kernel
theorem dX2_wake_23 : decode cX2_wake 23 = .ok (.bipush 7, 2) := by decide +kernel
theorem dX2_wake_25 : decode cX2_wake 25 = .ok (.iand, 1) := by decide +kernel
theorem dX2_wake_26 : decode cX2_wake 26 = .ok (.iconst 0, 1) := by decide +kernel
theorem dX2_wake_27 : decode cX2_wake 27 = .ok (.iastore, 1) := by decide +kernel
theorem dX2_wake_28 : decode cX2_wake 28 = .ok (.return_, 1) := by decide +kernel
theorem dX2_plan_0 : decode cX2_plan 0 = .ok (.aload_n 0, 1) := by decide +kernel
theorem dX2_plan_1 : decode cX2_plan 1 = .ok (.aload_n 0, 1) := by decide +kernel
theorem dX2_plan_2 : decode cX2_plan 2 = .ok (.iload_n 1, 1) := by decide +kernel
theorem dX2_plan_3 : decode cX2_plan 3 = .ok (.invokevirtual 96, 3) := by decide +kernel
theorem dX2_plan_6 : decode cX2_plan 6 = .ok (.putfield 55, 3) := by decide +kernel
theorem dX2_plan_9 : decode cX2_plan 9 = .ok (.aload_n 0, 1) := by decide +kernel
theorem dX2_plan_10 : decode cX2_plan 10 = .ok (.aload_n 0, 1) := by decide +kernel
theorem dX2_plan_11 : decode cX2_plan 11 = .ok (.iload_n 1, 1) := by decide +kernel
theorem dX2_plan_12 : decode cX2_plan 12 = .ok (.invokevirtual 100, 3) := by decide +kernel
theorem dX2_plan_15 : decode cX2_plan 15 = .ok (.putfield 58, 3) := by decide +kernel
theorem dX2_plan_18 : decode cX2_plan 18 = .ok (.aload_n 0, 1) := by decide +kernel
theorem dX2_plan_19 : decode cX2_plan 19 = .ok (.aload_n 0, 1) := by decide +kernel
theorem dX2_plan_20 : decode cX2_plan 20 = .ok (.getfield 58, 3) := by decide +kernel
theorem dX2_plan_23 : decode cX2_plan 23 = .ok (.aload_n 0, 1) := by decide +kernel
theorem dX2_plan_24 : decode cX2_plan 24 = .ok (.getfield 9, 3) := by decide +kernel
theorem dX2_plan_27 : decode cX2_plan 27 = .ok (.iconst 0, 1) := by decide +kernel
theorem dX2_plan_28 : decode cX2_plan 28 = .ok (.iaload, 1) := by decide +kernel
theorem dX2_plan_29 : decode cX2_plan 29 = .ok (.invokestatic 103, 3) := by decide +kernel
theorem dX2_plan_32 : decode cX2_plan 32 = .ok (.aload_n 0, 1) := by decide +kernel
theorem dX2_plan_33 : decode cX2_plan 33 = .ok (.getfield 9, 3) := by decide +kernel
theorem dX2_plan_36 : decode cX2_plan 36 = .ok (.iconst 1, 1) := by decide +kernel
theorem dX2_plan_37 : decode cX2_plan 37 = .ok (.iaload, 1) := by decide +kernel
theorem dX2_plan_38 : decode cX2_plan 38 = .ok (.invokestatic 109, 3) := by decide +kernel
theorem dX2_plan_41 : decode cX2_plan 41 = .ok (.putfield 61, 3) := by decide +kernel
theorem dX2_plan_44 : decode cX2_plan 44 = .ok (.aload_n 0, 1) := by decide +kernel
theorem dX2_plan_45 : decode cX2_plan 45 = .ok (.iconst (-1), 1) := by decide +kernel
theorem dX2_plan_46 : decode cX2_plan 46 = .ok (.putfield 64, 3) := by decide +kernel
theorem dX2_plan_49 : decode cX2_plan 49 = .ok (.aload_n 0, 1) := by decide +kernel
theorem dX2_plan_50 : decode cX2_plan 50 = .ok (.getfield 37, 3) := by decide +kernel
theorem dX2_plan_53 : decode cX2_plan 53 = .ok (.iload_n 1, 1) := by decide +kernel
theorem dX2_plan_54 : decode cX2_plan 54 = .ok (.iconst 3, 1) := by decide +kernel
theorem dX2_plan_55 : decode cX2_plan 55 = .ok (.iand, 1) := by decide +kernel
theorem dX2_plan_56 : decode cX2_plan 56 = .ok (.iconst 0, 1) := by decide +kernel
theorem dX2_plan_57 : decode cX2_plan 57 = .ok (.iastore, 1) := by decide +kernel
theorem dX2_plan_58 : decode cX2_plan 58 = .ok (.return_, 1) := by decide +kernel
theorem dX2_steadied_0 : decode cX2_steadied 0 = .ok (.aload_n 0, 1) := by decide +kernel
theorem dX2_steadied_1 : decode cX2_steadied 1 = .ok (.getfield 52, 3) := by decide +kernel
theorem dX2_steadied_4 : decode cX2_steadied 4 = .ok (.istore_n 2, 1) := by decide +kernel
theorem dX2_steadied_5 : decode cX2_steadied 5 = .ok (.aload_n 0, 1) := by decide +kernel
theorem dX2_steadied_6 : decode cX2_steadied 6 = .ok (.getfield 52, 3) := by decide +kernel
theorem dX2_steadied_9 : decode cX2_steadied 9 = .ok (.istore_n 3, 1) := by decide +kernel
theorem dX2_steadied_10 : decode cX2_steadied 10 = .ok (.iconst 1, 1) := by decide +kernel
theorem dX2_steadied_11 : decode cX2_steadied 11 = .ok (.istore 4, 2) := by decide +kernel
theorem dX2_steadied_13 : decode cX2_steadied 13 = .ok (.iload 4, 2) := by decide +kernel
theorem dX2_steadied_15 : decode cX2_steadied 15 = .ok (.bipush 6, 2) := by decide +kernel
theorem dX2_steadied_17 : decode cX2_steadied 17 = .ok (.if_icmp .ge 65, 3) := by decide +kernel
theorem dX2_steadied_20 : decode cX2_steadied 20 = .ok (.iload 4, 2) := by decide +kernel
theorem dX2_steadied_22 : decode cX2_steadied 22 = .ok (.iload_n 1, 1) := by decide +kernel
theorem dX2_steadied_23 : decode cX2_steadied 23 = .ok (.if_icmp .gt 59, 3) := by decide +kernel
theorem dX2_steadied_26 : decode cX2_steadied 26 = .ok (.aload_n 0, 1) := by decide +kernel
theorem dX2_steadied_27 : decode cX2_steadied 27 = .ok (.getfield 34, 3) := by decide +kernel
theorem dX2_steadied_30 : decode cX2_steadied 30 = .ok (.iload_n 1, 1) := by decide +kernel
theorem dX2_steadied_31 : decode cX2_steadied 31 = .ok (.iload 4, 2) := by decide +kernel
theorem dX2_steadied_33 : decode cX2_steadied 33 = .ok (.isub, 1) := by decide +kernel
theorem dX2_steadied_34 : decode cX2_steadied 34 = .ok (.bipush 7, 2) := by decide +kernel
theorem dX2_steadied_36 : decode cX2_steadied 36 = .ok (.iand, 1) := by decide +kernel
theorem dX2_steadied_37 : decode cX2_steadied 37 = .ok (.iaload, 1) := by decide +kernel
theorem dX2_steadied_38 : decode cX2_steadied 38 = .ok (.istore 5, 2) := by decide +kernel
theorem dX2_steadied_40 : decode cX2_steadied 40 = .ok (.iload 4, 2) := by decide +kernel
theorem dX2_steadied_42 : decode cX2_steadied 42 = .ok (.aload_n 0, 1) := by decide +kernel
theorem dX2_steadied_43 : decode cX2_steadied 43 = .ok (.getfield 9, 3) := by decide +kernel
theorem dX2_steadied_46 : decode cX2_steadied 46 = .ok (.iconst 3, 1) := by decide +kernel
theorem dX2_steadied_47 : decode cX2_steadied 47 = .ok (.iaload, 1) := by decide +kernel
theorem dX2_steadied_48 : decode cX2_steadied 48 = .ok (.if_icmp .ge 10, 3) := by decide +kernel
theorem dX2_steadied_51 : decode cX2_steadied 51 = .ok (.iload_n 2, 1) := by decide +kernel
theorem dX2_steadied_52 : decode cX2_steadied 52 = .ok (.iload 5, 2) := by decide +kernel
theorem dX2_steadied_54 : decode cX2_steadied 54 = .ok (.invokestatic 109, 3) := by decide +kernel
theorem dX2_steadied_57 : decode cX2_steadied 57 = .ok (.istore_n 2, 1) := by decide +kernel
theorem dX2_steadied_58 : decode cX2_steadied 58 = .ok (.iload 4, 2) := by decide +kernel
theorem dX2_steadied_60 : decode cX2_steadied 60 = .ok (.aload_n 0, 1) := by decide +kernel
theorem dX2_steadied_61 : decode cX2_steadied 61 = .ok (.getfield 9, 3) := by decide +kernel
theorem dX2_steadied_64 : decode cX2_steadied 64 = .ok (.iconst 4, 1) := by decide +kernel
theorem dX2_steadied_65 : decode cX2_steadied 65 = .ok (.iaload, 1) := by decide +kernel
theorem dX2_steadied_66 : decode cX2_steadied 66 = .ok (.if_icmp .ge 10, 3) := by decide +kernel
theorem dX2_steadied_69 : decode cX2_steadied 69 = .ok (.iload_n 3, 1) := by decide +kernel
theorem dX2_steadied_70 : decode cX2_steadied 70 = .ok (.iload 5, 2) := by decide +kernel
theorem dX2_steadied_72 : decode cX2_steadied 72 = .ok (.invokestatic 103, 3) := by decide +kernel
theorem dX2_steadied_75 : decode cX2_steadied 75 = .ok (.istore_n 3, 1) := by decide +kernel
theorem dX2_steadied_76 : decode cX2_steadied 76 = .ok (.iinc 4 1, 3) := by decide +kernel
theorem dX2_steadied_79 : decode cX2_steadied 79 = .ok (.goto (-66), 3) := by decide +kernel
theorem dX2_steadied_82 : decode cX2_steadied 82 = .ok (.aload_n 0, 1) := by decide +kernel
theorem dX2_steadied_83 : decode cX2_steadied 83 = .ok (.getfield 25, 3) := by decide +kernel
theorem dX2_steadied_86 : decode cX2_steadied 86 = .ok (.iload_n 2, 1) := by decide +kernel
theorem dX2_steadied_87 : decode cX2_steadied 87 = .ok (.if_icmp .ge 5, 3) := by decide +kernel
theorem dX2_steadied_90 : decode cX2_steadied 90 = .ok (.iload_n 2, 1) := by decide +kernel
theorem dX2_steadied_91 : decode cX2_steadied 91 = .ok (.ireturn, 1) := by decide +kernel
theorem dX2_steadied_92 : decode cX2_steadied 92 = .ok (.aload_n 0, 1) := by decide +kernel
theorem dX2_steadied_93 : decode cX2_steadied 93 = .ok (.getfield 25, 3) := by decide +kernel
theorem dX2_steadied_96 : decode cX2_steadied 96 = .ok (.iload_n 3, 1) := by decide +kernel
theorem dX2_steadied_97 : decode cX2_steadied 97 = .ok (.invokestatic 109, 3) := by decide +kernel
theorem dX2_steadied_100 : decode cX2_steadied 100 = .ok (.ireturn, 1) := by decide +kernel
theorem dX2_bounded_0 : decode cX2_bounded 0 = .ok (.iconst 0, 1) := by decide +kernel
theorem dX2_bounded_1 : decode cX2_bounded 1 = .ok (.istore_n 2, 1) := by decide +kernel
theorem dX2_bounded_2 : decode cX2_bounded 2 = .ok (.iconst 0, 1) := by decide +kernel
theorem dX2_bounded_3 : decode cX2_bounded 3 = .ok (.istore_n 3, 1) := by decide +kernel
theorem dX2_bounded_4 : decode cX2_bounded 4 = .ok (.iconst 1, 1) := by decide +kernel
theorem dX2_bounded_5 : decode cX2_bounded 5 = .ok (.istore 4, 2) := by decide +kernel
theorem dX2_bounded_7 : decode cX2_bounded 7 = .ok (.iload 4, 2) := by decide +kernel
theorem dX2_bounded_9 : decode cX2_bounded 9 = .ok (.aload_n 0, 1) := by decide +kernel
theorem dX2_bounded_10 : decode cX2_bounded 10 = .ok (.getfield 9, 3) := by decide +kernel
theorem dX2_bounded_13 : decode cX2_bounded 13 = .ok (.bipush 8, 2) := by decide +kernel
theorem dX2_bounded_15 : decode cX2_bounded 15 = .ok (.iaload, 1) := by decide +kernel
theorem dX2_bounded_16 : decode cX2_bounded 16 = .ok (.if_icmp .ge 47, 3) := by decide +kernel
theorem dX2_bounded_19 : decode cX2_bounded 19 = .ok (.iload 4, 2) := by decide +kernel
theorem dX2_bounded_21 : decode cX2_bounded 21 = .ok (.iload_n 1, 1) := by decide +kernel
theorem dX2_bounded_22 : decode cX2_bounded 22 = .ok (.if_icmp .gt 41, 3) := by decide +kernel
theorem dX2_bounded_25 : decode cX2_bounded 25 = .ok (.aload_n 0, 1) := by decide +kernel
theorem dX2_bounded_26 : decode cX2_bounded 26 = .ok (.getfield 37, 3) := by decide +kernel
theorem dX2_bounded_29 : decode cX2_bounded 29 = .ok (.iload_n 1, 1) := by decide +kernel
theorem dX2_bounded_30 : decode cX2_bounded 30 = .ok (.iload 4, 2) := by decide +kernel
theorem dX2_bounded_32 : decode cX2_bounded 32 = .ok (.isub, 1) := by decide +kernel
theorem dX2_bounded_33 : decode cX2_bounded 33 = .ok (.iconst 3, 1) := by decide +kernel
theorem dX2_bounded_34 : decode cX2_bounded 34 = .ok (.iand, 1) := by decide +kernel
theorem dX2_bounded_35 : decode cX2_bounded 35 = .ok (.iaload, 1) := by decide +kernel
theorem dX2_bounded_36 : decode cX2_bounded 36 = .ok (.istore 5, 2) := by decide +kernel
theorem dX2_bounded_38 : decode cX2_bounded 38 = .ok (.iload_n 2, 1) := by decide +kernel
theorem dX2_bounded_39 : decode cX2_bounded 39 = .ok (.iload 5, 2) := by decide +kernel
theorem dX2_bounded_41 : decode cX2_bounded 41 = .ok (.iconst 0, 1) := by decide +kernel
theorem dX2_bounded_42 : decode cX2_bounded 42 = .ok (.invokestatic 103, 3) := by decide +kernel
theorem dX2_bounded_45 : decode cX2_bounded 45 = .ok (.iadd, 1) := by decide +kernel
theorem dX2_bounded_46 : decode cX2_bounded 46 = .ok (.istore_n 2, 1) := by decide +kernel
theorem dX2_bounded_47 : decode cX2_bounded 47 = .ok (.iload_n 3, 1) := by decide +kernel
theorem dX2_bounded_48 : decode cX2_bounded 48 = .ok (.iload 5, 2) := by decide +kernel
theorem dX2_bounded_50 : decode cX2_bounded 50 = .ok (.ineg, 1) := by decide +kernel
theorem dX2_bounded_51 : decode cX2_bounded 51 = .ok (.iconst 0, 1) := by decide +kernel
theorem dX2_bounded_52 : decode cX2_bounded 52 = .ok (.invokestatic 103, 3) := by decide +kernel
theorem dX2_bounded_55 : decode cX2_bounded 55 = .ok (.iadd, 1) := by decide +kernel
theorem dX2_bounded_56 : decode cX2_bounded 56 = .ok (.istore_n 3, 1) := by decide +kernel
theorem dX2_bounded_57 : decode cX2_bounded 57 = .ok (.iinc 4 1, 3) := by decide +kernel
theorem dX2_bounded_60 : decode cX2_bounded 60 = .ok (.goto (-53), 3) := by decide +kernel
theorem dX2_bounded_63 : decode cX2_bounded 63 = .ok (.aload_n 0, 1) := by decide +kernel
theorem dX2_bounded_64 : decode cX2_bounded 64 = .ok (.getfield 55, 3) := by decide +kernel
theorem dX2_bounded_67 : decode cX2_bounded 67 = .ok (.aload_n 0, 1) := by decide +kernel
theorem dX2_bounded_68 : decode cX2_bounded 68 = .ok (.getfield 25, 3) := by decide +kernel
theorem dX2_bounded_71 : decode cX2_bounded 71 = .ok (.if_icmp .ge 36, 3) := by decide +kernel
theorem dX2_bounded_74 : decode cX2_bounded 74 = .ok (.aload_n 0, 1) := by decide +kernel
theorem dX2_bounded_75 : decode cX2_bounded 75 = .ok (.getfield 25, 3) := by decide +kernel
theorem dX2_bounded_78 : decode cX2_bounded 78 = .ok (.iload_n 3, 1) := by decide +kernel
theorem dX2_bounded_79 : decode cX2_bounded 79 = .ok (.iadd, 1) := by decide +kernel
theorem dX2_bounded_80 : decode cX2_bounded 80 = .ok (.aload_n 0, 1) := by decide +kernel
theorem dX2_bounded_81 : decode cX2_bounded 81 = .ok (.getfield 9, 3) := by decide +kernel
theorem dX2_bounded_84 : decode cX2_bounded 84 = .ok (.bipush 7, 2) := by decide +kernel
theorem dX2_bounded_86 : decode cX2_bounded 86 = .ok (.iaload, 1) := by decide +kernel
theorem dX2_bounded_87 : decode cX2_bounded 87 = .ok (.isub, 1) := by decide +kernel
theorem dX2_bounded_88 : decode cX2_bounded 88 = .ok (.istore 4, 2) := by decide +kernel
theorem dX2_bounded_90 : decode cX2_bounded 90 = .ok (.aload_n 0, 1) := by decide +kernel
theorem dX2_bounded_91 : decode cX2_bounded 91 = .ok (.getfield 55, 3) := by decide +kernel
theorem dX2_bounded_94 : decode cX2_bounded 94 = .ok (.iload 4, 2) := by decide +kernel
theorem dX2_bounded_96 : decode cX2_bounded 96 = .ok (.invokestatic 103, 3) := by decide +kernel
theorem dX2_bounded_99 : decode cX2_bounded 99 = .ok (.aload_n 0, 1) := by decide +kernel
theorem dX2_bounded_100 : decode cX2_bounded 100 = .ok (.getfield 25, 3) := by decide +kernel
theorem dX2_bounded_103 : decode cX2_bounded 103 = .ok (.invokestatic 109, 3) := by decide +kernel
theorem dX2_bounded_106 : decode cX2_bounded 106 = .ok (.ireturn, 1) := by decide +kernel
theorem dX2_bounded_107 : decode cX2_bounded 107 = .ok (.aload_n 0, 1) := by decide +kernel
theorem dX2_bounded_108 : decode cX2_bounded 108 = .ok (.getfield 25, 3) := by decide +kernel
theorem dX2_bounded_111 : decode cX2_bounded 111 = .ok (.iload_n 2, 1) := by decide +kernel
theorem dX2_bounded_112 : decode cX2_bounded 112 = .ok (.isub, 1) := by decide +kernel
theorem dX2_bounded_113 : decode cX2_bounded 113 = .ok (.iconst 0, 1) := by decide +kernel
theorem dX2_bounded_114 : decode cX2_bounded 114 = .ok (.invokestatic 103, 3) := by decide +kernel
theorem dX2_bounded_117 : decode cX2_bounded 117 = .ok (.istore 4, 2) := by decide +kernel
theorem dX2_bounded_119 : decode cX2_bounded 119 = .ok (.iload 4, 2) := by decide +kernel
theorem dX2_bounded_121 : decode cX2_bounded 121 = .ok (.aload_n 0, 1) := by decide +kernel
theorem dX2_bounded_122 : decode cX2_bounded 122 = .ok (.getfield 9, 3) := by decide +kernel
theorem dX2_bounded_125 : decode cX2_bounded 125 = .ok (.iconst 5, 1) := by decide +kernel
theorem dX2_bounded_126 : decode cX2_bounded 126 = .ok (.iaload, 1) := by decide +kernel
theorem dX2_bounded_127 : decode cX2_bounded 127 = .ok (.iload 4, 2) := by decide +kernel
theorem dX2_bounded_129 : decode cX2_bounded 129 = .ok (.aload_n 0, 1) := by decide +kernel
theorem dX2_bounded_130 : decode cX2_bounded 130 = .ok (.getfield 9, 3) := by decide +kernel
theorem dX2_bounded_133 : decode cX2_bounded 133 = .ok (.bipush 6, 2) := by decide +kernel
theorem dX2_bounded_135 : decode cX2_bounded 135 = .ok (.iaload, 1) := by decide +kernel
theorem dX2_bounded_136 : decode cX2_bounded 136 = .ok (.imul, 1) := by decide +kernel
theorem dX2_bounded_137 : decode cX2_bounded 137 = .ok (.bipush 100, 2) := by decide +kernel
theorem dX2_bounded_139 : decode cX2_bounded 139 = .ok (.invokestatic 112, 3) := by decide +kernel
theorem dX2_bounded_142 : decode cX2_bounded 142 = .ok (.invokestatic 103, 3) := by decide +kernel
theorem dX2_bounded_145 : decode cX2_bounded 145 = .ok (.iadd, 1) := by decide +kernel
theorem dX2_bounded_146 : decode cX2_bounded 146 = .ok (.istore 5, 2) := by decide +kernel
theorem dX2_bounded_148 : decode cX2_bounded 148 = .ok (.aload_n 0, 1) := by decide +kernel
theorem dX2_bounded_149 : decode cX2_bounded 149 = .ok (.getfield 55, 3) := by decide +kernel
theorem dX2_bounded_152 : decode cX2_bounded 152 = .ok (.iload 5, 2) := by decide +kernel
theorem dX2_bounded_154 : decode cX2_bounded 154 = .ok (.invokestatic 109, 3) := by decide +kernel
theorem dX2_bounded_157 : decode cX2_bounded 157 = .ok (.aload_n 0, 1) := by decide +kernel
theorem dX2_bounded_158 : decode cX2_bounded 158 = .ok (.getfield 25, 3) := by decide +kernel
theorem dX2_bounded_161 : decode cX2_bounded 161 = .ok (.invokestatic 103, 3) := by decide +kernel
theorem dX2_bounded_164 : decode cX2_bounded 164 = .ok (.ireturn, 1) := by decide +kernel
theorem dX2_giveUpTooMany_0 : decode cX2_giveUpTooMany 0 = .ok (.aload_n 0, 1) := by decide +kernel
theorem dX2_giveUpTooMany_1 : decode cX2_giveUpTooMany 1 = .ok (.getfield 25, 3) := by decide +kernel
theorem dX2_giveUpTooMany_4 : decode cX2_giveUpTooMany 4 = .ok (.aload_n 0, 1) := by decide +kernel
theorem dX2_giveUpTooMany_5 : decode cX2_giveUpTooMany 5 = .ok (.getfield 61, 3) := by decide +kernel
theorem dX2_giveUpTooMany_8 : decode cX2_giveUpTooMany 8 = .ok (.if_icmp .gt 4, 3) := by decide +kernel
theorem dX2_giveUpTooMany_11 : decode cX2_giveUpTooMany 11 = .ok (.return_, 1) := by decide +kernel
theorem dX2_giveUpTooMany_12 : decode cX2_giveUpTooMany 12 = .ok (.aload_n 0, 1) := by decide +kernel
theorem dX2_giveUpTooMany_13 : decode cX2_giveUpTooMany 13 = .ok (.getfield 25, 3) := by decide +kernel
theorem dX2_giveUpTooMany_16 : decode cX2_giveUpTooMany 16 = .ok (.aload_n 0, 1) := by decide +kernel
theorem dX2_giveUpTooMany_17 : decode cX2_giveUpTooMany 17 = .ok (.getfield 61, 3) := by decide +kernel
theorem dX2_giveUpTooMany_20 : decode cX2_giveUpTooMany 20 = .ok (.isub, 1) := by decide +kernel
theorem dX2_giveUpTooMany_21 : decode cX2_giveUpTooMany 21 = .ok (.istore_n 2, 1) := by decide +kernel
theorem dX2_giveUpTooMany_22 : decode cX2_giveUpTooMany 22 = .ok (.aload_n 0, 1) := by decide +kernel
theorem dX2_giveUpTooMany_23 : decode cX2_giveUpTooMany 23 = .ok (.getfield 37, 3) := by decide +kernel
theorem dX2_giveUpTooMany_26 : decode cX2_giveUpTooMany 26 = .ok (.iload_n 1, 1) := by decide +kernel
theorem dX2_giveUpTooMany_27 : decode cX2_giveUpTooMany 27 = .ok (.iconst 3, 1) := by decide +kernel
theorem dX2_giveUpTooMany_28 : decode cX2_giveUpTooMany 28 = .ok (.iand, 1) := by decide +kernel
theorem dX2_giveUpTooMany_29 : decode cX2_giveUpTooMany 29 = .ok (.iload_n 2, 1) := by decide +kernel
theorem dX2_giveUpTooMany_30 : decode cX2_giveUpTooMany 30 = .ok (.ineg, 1) := by decide +kernel
theorem dX2_giveUpTooMany_31 : decode cX2_giveUpTooMany 31 = .ok (.iastore, 1) := by decide +kernel
theorem dX2_giveUpTooMany_32 : decode cX2_giveUpTooMany 32 = .ok (.bipush 6, 2) := by decide +kernel
theorem dX2_giveUpTooMany_34 : decode cX2_giveUpTooMany 34 = .ok (.istore_n 3, 1) := by decide +kernel
theorem dX2_giveUpTooMany_35 : decode cX2_giveUpTooMany 35 = .ok (.iload_n 3, 1) := by decide +kernel
theorem dX2_giveUpTooMany_36 : decode cX2_giveUpTooMany 36 = .ok (.ifCond .le 47, 3) := by decide +kernel
theorem dX2_giveUpTooMany_39 : decode cX2_giveUpTooMany 39 = .ok (.iload_n 1, 1) := by decide +kernel
theorem dX2_giveUpTooMany_40 : decode cX2_giveUpTooMany 40 = .ok (.iload_n 3, 1) := by decide +kernel
theorem dX2_giveUpTooMany_41 : decode cX2_giveUpTooMany 41 = .ok (.iadd, 1) := by decide +kernel
theorem dX2_giveUpTooMany_42 : decode cX2_giveUpTooMany 42 = .ok (.bipush 7, 2) := by decide +kernel
theorem dX2_giveUpTooMany_44 : decode cX2_giveUpTooMany 44 = .ok (.iand, 1) := by decide +kernel
theorem dX2_giveUpTooMany_45 : decode cX2_giveUpTooMany 45 = .ok (.istore 4, 2) := by decide +kernel
theorem dX2_giveUpTooMany_47 : decode cX2_giveUpTooMany 47 = .ok (.aload_n 0, 1) := by decide +kernel
theorem dX2_giveUpTooMany_48 : decode cX2_giveUpTooMany 48 = .ok (.getfield 31, 3) := by decide +kernel
theorem dX2_giveUpTooMany_51 : decode cX2_giveUpTooMany 51 = .ok (.iload 4, 2) := by decide +kernel
theorem dX2_giveUpTooMany_53 : decode cX2_giveUpTooMany 53 = .ok (.iaload, 1) := by decide +kernel
theorem dX2_giveUpTooMany_54 : decode cX2_giveUpTooMany 54 = .ok (.iload_n 2, 1) := by decide +kernel
theorem dX2_giveUpTooMany_55 : decode cX2_giveUpTooMany 55 = .ok (.invokestatic 109, 3) := by decide +kernel
theorem dX2_giveUpTooMany_58 : decode cX2_giveUpTooMany 58 = .ok (.istore 5, 2) := by decide +kernel
theorem dX2_giveUpTooMany_60 : decode cX2_giveUpTooMany 60 = .ok (.aload_n 0, 1) := by decide +kernel
theorem dX2_giveUpTooMany_61 : decode cX2_giveUpTooMany 61 = .ok (.getfield 31, 3) := by decide +kernel
theorem dX2_giveUpTooMany_64 : decode cX2_giveUpTooMany 64 = .ok (.iload 4, 2) := by decide +kernel
theorem dX2_giveUpTooMany_66 : decode cX2_giveUpTooMany 66 = .ok (.dup2, 1) := by decide +kernel
theorem dX2_giveUpTooMany_67 : decode cX2_giveUpTooMany 67 = .ok (.iaload, 1) := by decide +kernel
theorem dX2_giveUpTooMany_68 : decode cX2_giveUpTooMany 68 = .ok (.iload 5, 2) := by decide +kernel
theorem dX2_giveUpTooMany_70 : decode cX2_giveUpTooMany 70 = .ok (.isub, 1) := by decide +kernel
theorem dX2_giveUpTooMany_71 : decode cX2_giveUpTooMany 71 = .ok (.iastore, 1) := by decide +kernel
theorem dX2_giveUpTooMany_72 : decode cX2_giveUpTooMany 72 = .ok (.iload_n 2, 1) := by decide +kernel
theorem dX2_giveUpTooMany_73 : decode cX2_giveUpTooMany 73 = .ok (.iload 5, 2) := by decide +kernel
theorem dX2_giveUpTooMany_75 : decode cX2_giveUpTooMany 75 = .ok (.isub, 1) := by decide +kernel
theorem dX2_giveUpTooMany_76 : decode cX2_giveUpTooMany 76 = .ok (.istore_n 2, 1) := by decide +kernel
theorem dX2_giveUpTooMany_77 : decode cX2_giveUpTooMany 77 = .ok (.iinc 3 (-1), 3) := by decide +kernel
theorem dX2_giveUpTooMany_80 : decode cX2_giveUpTooMany 80 = .ok (.goto (-45), 3) := by decide +kernel
theorem dX2_giveUpTooMany_83 : decode cX2_giveUpTooMany 83 = .ok (.aload_n 0, 1) := by decide +kernel
theorem dX2_giveUpTooMany_84 : decode cX2_giveUpTooMany 84 = .ok (.dup, 1) := by decide +kernel
theorem dX2_giveUpTooMany_85 : decode cX2_giveUpTooMany 85 = .ok (.getfield 28, 3) := by decide +kernel
theorem dX2_giveUpTooMany_88 : decode cX2_giveUpTooMany 88 = .ok (.iload_n 2, 1) := by decide +kernel
theorem dX2_giveUpTooMany_89 : decode cX2_giveUpTooMany 89 = .ok (.isub, 1) := by decide +kernel
theorem dX2_giveUpTooMany_90 : decode cX2_giveUpTooMany 90 = .ok (.putfield 28, 3) := by decide +kernel
theorem dX2_giveUpTooMany_93 : decode cX2_giveUpTooMany 93 = .ok (.aload_n 0, 1) := by decide +kernel
theorem dX2_giveUpTooMany_94 : decode cX2_giveUpTooMany 94 = .ok (.aload_n 0, 1) := by decide +kernel
theorem dX2_giveUpTooMany_95 : decode cX2_giveUpTooMany 95 = .ok (.getfield 61, 3) := by decide +kernel
theorem dX2_giveUpTooMany_98 : decode cX2_giveUpTooMany 98 = .ok (.putfield 25, 3) := by decide +kernel
theorem dX2_giveUpTooMany_101 : decode cX2_giveUpTooMany 101 = .ok (.return_, 1) := by decide +kernel
theorem dX2_goesBefore_0 : decode cX2_goesBefore 0 = .ok (.aload_n 0, 1) := by decide +kernel
theorem dX2_goesBefore_1 : decode cX2_goesBefore 1 = .ok (.getfield 9, 3) := by decide +kernel
theorem dX2_goesBefore_4 : decode cX2_goesBefore 4 = .ok (.iconst 2, 1) := by decide +kernel
theorem dX2_goesBefore_5 : decode cX2_goesBefore 5 = .ok (.iaload, 1) := by decide +kernel
theorem dX2_goesBefore_6 : decode cX2_goesBefore 6 = .ok (.aload_n 1, 1) := by decide +kernel
theorem dX2_goesBefore_7 : decode cX2_goesBefore 7 = .ok (.getfield 9, 3) := by decide +kernel
theorem dX2_goesBefore_10 : decode cX2_goesBefore 10 = .ok (.iconst 2, 1) := by decide +kernel
theorem dX2_goesBefore_11 : decode cX2_goesBefore 11 = .ok (.iaload, 1) := by decide +kernel
theorem dX2_goesBefore_12 : decode cX2_goesBefore 12 = .ok (.if_icmp .eq 24, 3) := by decide +kernel
theorem dX2_goesBefore_15 : decode cX2_goesBefore 15 = .ok (.aload_n 0, 1) := by decide +kernel
theorem dX2_goesBefore_16 : decode cX2_goesBefore 16 = .ok (.getfield 9, 3) := by decide +kernel
theorem dX2_goesBefore_19 : decode cX2_goesBefore 19 = .ok (.iconst 2, 1) := by decide +kernel
theorem dX2_goesBefore_20 : decode cX2_goesBefore 20 = .ok (.iaload, 1) := by decide +kernel
theorem dX2_goesBefore_21 : decode cX2_goesBefore 21 = .ok (.aload_n 1, 1) := by decide +kernel
theorem dX2_goesBefore_22 : decode cX2_goesBefore 22 = .ok (.getfield 9, 3) := by decide +kernel
theorem dX2_goesBefore_25 : decode cX2_goesBefore 25 = .ok (.iconst 2, 1) := by decide +kernel
theorem dX2_goesBefore_26 : decode cX2_goesBefore 26 = .ok (.iaload, 1) := by decide +kernel
theorem dX2_goesBefore_27 : decode cX2_goesBefore 27 = .ok (.if_icmp .le 7, 3) := by decide +kernel
theorem dX2_goesBefore_30 : decode cX2_goesBefore 30 = .ok (.iconst 1, 1) := by decide +kernel
theorem dX2_goesBefore_31 : decode cX2_goesBefore 31 = .ok (.goto 4, 3) := by decide +kernel
theorem dX2_goesBefore_34 : decode cX2_goesBefore 34 = .ok (.iconst 0, 1) := by decide +kernel
theorem dX2_goesBefore_35 : decode cX2_goesBefore 35 = .ok (.ireturn, 1) := by decide +kernel
theorem dX2_goesBefore_36 : decode cX2_goesBefore 36 = .ok (.aload_n 0, 1) := by decide +kernel
theorem dX2_goesBefore_37 : decode cX2_goesBefore 37 = .ok (.getfield 25, 3) := by decide +kernel
theorem dX2_goesBefore_40 : decode cX2_goesBefore 40 = .ok (.aload_n 1, 1) := by decide +kernel
theorem dX2_goesBefore_41 : decode cX2_goesBefore 41 = .ok (.getfield 61, 3) := by decide +kernel
theorem dX2_goesBefore_44 : decode cX2_goesBefore 44 = .ok (.imul, 1) := by decide +kernel
theorem dX2_goesBefore_45 : decode cX2_goesBefore 45 = .ok (.aload_n 1, 1) := by decide +kernel
theorem dX2_goesBefore_46 : decode cX2_goesBefore 46 = .ok (.getfield 25, 3) := by decide +kernel
theorem dX2_goesBefore_49 : decode cX2_goesBefore 49 = .ok (.aload_n 0, 1) := by decide +kernel
theorem dX2_goesBefore_50 : decode cX2_goesBefore 50 = .ok (.getfield 61, 3) := by decide +kernel
theorem dX2_goesBefore_53 : decode cX2_goesBefore 53 = .ok (.imul, 1) := by decide +kernel
theorem dX2_goesBefore_54 : decode cX2_goesBefore 54 = .ok (.if_icmp .ge 7, 3) := by decide +kernel
theorem dX2_goesBefore_57 : decode cX2_goesBefore 57 = .ok (.iconst 1, 1) := by decide +kernel
theorem dX2_goesBefore_58 : decode cX2_goesBefore 58 = .ok (.goto 4, 3) := by decide +kernel
theorem dX2_goesBefore_61 : decode cX2_goesBefore 61 = .ok (.iconst 0, 1) := by decide +kernel
theorem dX2_goesBefore_62 : decode cX2_goesBefore 62 = .ok (.ireturn, 1) := by decide +kernel
theorem dX2_get_0 : decode cX2_get 0 = .ok (.aload_n 0, 1) := by decide +kernel
theorem dX2_get_1 : decode cX2_get 1 = .ok (.getfield 31, 3) := by decide +kernel
theorem dX2_get_4 : decode cX2_get 4 = .ok (.iload_n 1, 1) := by decide +kernel
theorem dX2_get_5 : decode cX2_get 5 = .ok (.iconst 1, 1) := by decide +kernel
theorem dX2_get_6 : decode cX2_get 6 = .ok (.iadd, 1) := by decide +kernel
theorem dX2_get_7 : decode cX2_get 7 = .ok (.bipush 7, 2) := by decide +kernel
theorem dX2_get_9 : decode cX2_get 9 = .ok (.iand, 1) := by decide +kernel
theorem dX2_get_10 : decode cX2_get 10 = .ok (.dup2, 1) := by decide +kernel
theorem dX2_get_11 : decode cX2_get 11 = .ok (.iaload, 1) := by decide +kernel
theorem dX2_get_12 : decode cX2_get 12 = .ok (.iload_n 3, 1) := by decide +kernel
theorem dX2_get_13 : decode cX2_get 13 = .ok (.iadd, 1) := by decide +kernel
theorem dX2_get_14 : decode cX2_get 14 = .ok (.iastore, 1) := by decide +kernel
theorem dX2_get_15 : decode cX2_get 15 = .ok (.aload_n 0, 1) := by decide +kernel
theorem dX2_get_16 : decode cX2_get 16 = .ok (.getfield 31, 3) := by decide +kernel
theorem dX2_get_19 : decode cX2_get 19 = .ok (.iload_n 1, 1) := by decide +kernel
theorem dX2_get_20 : decode cX2_get 20 = .ok (.iload 4, 2) := by decide +kernel
theorem dX2_get_22 : decode cX2_get 22 = .ok (.iadd, 1) := by decide +kernel
theorem dX2_get_23 : decode cX2_get 23 = .ok (.bipush 7, 2) := by decide +kernel
theorem dX2_get_25 : decode cX2_get 25 = .ok (.iand, 1) := by decide +kernel
theorem dX2_get_26 : decode cX2_get 26 = .ok (.dup2, 1) := by decide +kernel
theorem dX2_get_27 : decode cX2_get 27 = .ok (.iaload, 1) := by decide +kernel
theorem dX2_get_28 : decode cX2_get 28 = .ok (.iload_n 2, 1) := by decide +kernel
theorem dX2_get_29 : decode cX2_get 29 = .ok (.iload_n 3, 1) := by decide +kernel
theorem dX2_get_30 : decode cX2_get 30 = .ok (.isub, 1) := by decide +kernel
theorem dX2_get_31 : decode cX2_get 31 = .ok (.iadd, 1) := by decide +kernel
theorem dX2_get_32 : decode cX2_get 32 = .ok (.iastore, 1) := by decide +kernel
theorem dX2_get_33 : decode cX2_get 33 = .ok (.aload_n 0, 1) := by decide +kernel
theorem dX2_get_34 : decode cX2_get 34 = .ok (.dup, 1) := by decide +kernel
theorem dX2_get_35 : decode cX2_get 35 = .ok (.getfield 25, 3) := by decide +kernel
theorem dX2_get_38 : decode cX2_get 38 = .ok (.iload_n 2, 1) := by decide +kernel
theorem dX2_get_39 : decode cX2_get 39 = .ok (.iadd, 1) := by decide +kernel
theorem dX2_get_40 : decode cX2_get 40 = .ok (.putfield 25, 3) := by decide +kernel
theorem dX2_get_43 : decode cX2_get 43 = .ok (.aload_n 0, 1) := by decide +kernel
theorem dX2_get_44 : decode cX2_get 44 = .ok (.getfield 37, 3) := by decide +kernel
theorem dX2_get_47 : decode cX2_get 47 = .ok (.iload_n 1, 1) := by decide +kernel
theorem dX2_get_48 : decode cX2_get 48 = .ok (.iconst 3, 1) := by decide +kernel
theorem dX2_get_49 : decode cX2_get 49 = .ok (.iand, 1) := by decide +kernel
theorem dX2_get_50 : decode cX2_get 50 = .ok (.iload_n 2, 1) := by decide +kernel
theorem dX2_get_51 : decode cX2_get 51 = .ok (.iastore, 1) := by decide +kernel
theorem dX2_get_52 : decode cX2_get 52 = .ok (.return_, 1) := by decide +kernel
theorem dX2_close_0 : decode cX2_close 0 = .ok (.aload_n 0, 1) := by decide +kernel
theorem dX2_close_1 : decode cX2_close 1 = .ok (.dup, 1) := by decide +kernel
theorem dX2_close_2 : decode cX2_close 2 = .ok (.getfield 43, 3) := by decide +kernel
theorem dX2_close_5 : decode cX2_close 5 = .ok (.aload_n 0, 1) := by decide +kernel
theorem dX2_close_6 : decode cX2_close 6 = .ok (.getfield 25, 3) := by decide +kernel
theorem dX2_close_9 : decode cX2_close 9 = .ok (.iadd, 1) := by decide +kernel
theorem dX2_close_10 : decode cX2_close 10 = .ok (.putfield 43, 3) := by decide +kernel
theorem dX2_close_13 : decode cX2_close 13 = .ok (.aload_n 0, 1) := by decide +kernel
theorem dX2_close_14 : decode cX2_close 14 = .ok (.dup, 1) := by decide +kernel
theorem dX2_close_15 : decode cX2_close 15 = .ok (.getfield 46, 3) := by decide +kernel
theorem dX2_close_18 : decode cX2_close 18 = .ok (.aload_n 0, 1) := by decide +kernel
theorem dX2_close_19 : decode cX2_close 19 = .ok (.getfield 52, 3) := by decide +kernel
theorem dX2_close_22 : decode cX2_close 22 = .ok (.aload_n 0, 1) := by decide +kernel
theorem dX2_close_23 : decode cX2_close 23 = .ok (.getfield 28, 3) := by decide +kernel
theorem dX2_close_26 : decode cX2_close 26 = .ok (.isub, 1) := by decide +kernel
theorem dX2_close_27 : decode cX2_close 27 = .ok (.iconst 0, 1) := by decide +kernel
theorem dX2_close_28 : decode cX2_close 28 = .ok (.invokestatic 103, 3) := by decide +kernel
theorem dX2_close_31 : decode cX2_close 31 = .ok (.iadd, 1) := by decide +kernel
theorem dX2_close_32 : decode cX2_close 32 = .ok (.putfield 46, 3) := by decide +kernel
theorem dX2_close_35 : decode cX2_close 35 = .ok (.aload_n 0, 1) := by decide +kernel
theorem dX2_close_36 : decode cX2_close 36 = .ok (.getfield 37, 3) := by decide +kernel
theorem dX2_close_39 : decode cX2_close 39 = .ok (.iload_n 1, 1) := by decide +kernel
theorem dX2_close_40 : decode cX2_close 40 = .ok (.iconst 3, 1) := by decide +kernel
theorem dX2_close_41 : decode cX2_close 41 = .ok (.iand, 1) := by decide +kernel
theorem dX2_close_42 : decode cX2_close 42 = .ok (.iaload, 1) := by decide +kernel
theorem dX2_close_43 : decode cX2_close 43 = .ok (.istore_n 2, 1) := by decide +kernel
theorem dX2_close_44 : decode cX2_close 44 = .ok (.iload_n 2, 1) := by decide +kernel
theorem dX2_close_45 : decode cX2_close 45 = .ok (.ifCond .le 10, 3) := by decide +kernel
theorem dX2_close_48 : decode cX2_close 48 = .ok (.aload_n 0, 1) := by decide +kernel
theorem dX2_close_49 : decode cX2_close 49 = .ok (.getfield 40, 3) := by decide +kernel
theorem dX2_close_52 : decode cX2_close 52 = .ok (.ifCond .lt 14, 3) := by decide +kernel
theorem dX2_close_55 : decode cX2_close 55 = .ok (.iload_n 2, 1) := by decide +kernel
theorem dX2_close_56 : decode cX2_close 56 = .ok (.ifCond .ge 20, 3) := by decide +kernel
theorem dX2_close_59 : decode cX2_close 59 = .ok (.aload_n 0, 1) := by decide +kernel
theorem dX2_close_60 : decode cX2_close 60 = .ok (.getfield 40, 3) := by decide +kernel
theorem dX2_close_63 : decode cX2_close 63 = .ok (.ifCond .le 13, 3) := by decide +kernel
theorem dX2_close_66 : decode cX2_close 66 = .ok (.aload_n 0, 1) := by decide +kernel
theorem dX2_close_67 : decode cX2_close 67 = .ok (.dup, 1) := by decide +kernel
theorem dX2_close_68 : decode cX2_close 68 = .ok (.getfield 49, 3) := by decide +kernel
theorem dX2_close_71 : decode cX2_close 71 = .ok (.iconst 1, 1) := by decide +kernel
theorem dX2_close_72 : decode cX2_close 72 = .ok (.iadd, 1) := by decide +kernel
theorem dX2_close_73 : decode cX2_close 73 = .ok (.putfield 49, 3) := by decide +kernel
theorem dX2_close_76 : decode cX2_close 76 = .ok (.iload_n 2, 1) := by decide +kernel
theorem dX2_close_77 : decode cX2_close 77 = .ok (.ifCond .eq 8, 3) := by decide +kernel
theorem dX2_close_80 : decode cX2_close 80 = .ok (.aload_n 0, 1) := by decide +kernel
theorem dX2_close_81 : decode cX2_close 81 = .ok (.iload_n 2, 1) := by decide +kernel
theorem dX2_close_82 : decode cX2_close 82 = .ok (.putfield 40, 3) := by decide +kernel
theorem dX2_close_85 : decode cX2_close 85 = .ok (.aload_n 0, 1) := by decide +kernel
theorem dX2_close_86 : decode cX2_close 86 = .ok (.getfield 34, 3) := by decide +kernel
theorem dX2_close_89 : decode cX2_close 89 = .ok (.iload_n 1, 1) := by decide +kernel
theorem dX2_close_90 : decode cX2_close 90 = .ok (.bipush 7, 2) := by decide +kernel
theorem dX2_close_92 : decode cX2_close 92 = .ok (.iand, 1) := by decide +kernel
theorem dX2_close_93 : decode cX2_close 93 = .ok (.aload_n 0, 1) := by decide +kernel
theorem dX2_close_94 : decode cX2_close 94 = .ok (.getfield 52, 3) := by decide +kernel
theorem dX2_close_97 : decode cX2_close 97 = .ok (.iastore, 1) := by decide +kernel
theorem dX2_close_98 : decode cX2_close 98 = .ok (.iconst 0, 1) := by decide +kernel
theorem dX2_close_99 : decode cX2_close 99 = .ok (.istore_n 3, 1) := by decide +kernel
theorem dX2_close_100 : decode cX2_close 100 = .ok (.iload_n 3, 1) := by decide +kernel
theorem dX2_close_101 : decode cX2_close 101 = .ok (.aload_n 0, 1) := by decide +kernel
theorem dX2_close_102 : decode cX2_close 102 = .ok (.getfield 21, 3) := by decide +kernel
theorem dX2_close_105 : decode cX2_close 105 = .ok (.if_icmp .ge 32, 3) := by decide +kernel
theorem dX2_close_108 : decode cX2_close 108 = .ok (.aload_n 0, 1) := by decide +kernel
theorem dX2_close_109 : decode cX2_close 109 = .ok (.getfield 17, 3) := by decide +kernel
theorem dX2_close_112 : decode cX2_close 112 = .ok (.iload_n 3, 1) := by decide +kernel
theorem dX2_close_113 : decode cX2_close 113 = .ok (.aaload, 1) := by decide +kernel
theorem dX2_close_114 : decode cX2_close 114 = .ok (.getfield 87, 3) := by decide +kernel
theorem dX2_close_117 : decode cX2_close 117 = .ok (.iload_n 1, 1) := by decide +kernel
theorem dX2_close_118 : decode cX2_close 118 = .ok (.bipush 31, 2) := by decide +kernel
theorem dX2_close_120 : decode cX2_close 120 = .ok (.iand, 1) := by decide +kernel
theorem dX2_close_121 : decode cX2_close 121 = .ok (.aload_n 0, 1) := by decide +kernel
theorem dX2_close_122 : decode cX2_close 122 = .ok (.getfield 17, 3) := by decide +kernel
theorem dX2_close_125 : decode cX2_close 125 = .ok (.iload_n 3, 1) := by decide +kernel
theorem dX2_close_126 : decode cX2_close 126 = .ok (.aaload, 1) := by decide +kernel
theorem dX2_close_127 : decode cX2_close 127 = .ok (.getfield 74, 3) := by decide +kernel
theorem dX2_close_130 : decode cX2_close 130 = .ok (.iastore, 1) := by decide +kernel
theorem dX2_close_131 : decode cX2_close 131 = .ok (.iinc 3 1, 3) := by decide +kernel
theorem dX2_close_134 : decode cX2_close 134 = .ok (.goto (-34), 3) := by decide +kernel
theorem dX2_close_137 : decode cX2_close 137 = .ok (.return_, 1) := by decide +kernel
theorem dX2_costs_0 : decode cX2_costs 0 = .ok (.aload_n 0, 1) := by decide +kernel
theorem dX2_costs_1 : decode cX2_costs 1 = .ok (.getfield 43, 3) := by decide +kernel
theorem dX2_costs_4 : decode cX2_costs 4 = .ok (.iconst 5, 1) := by decide +kernel
theorem dX2_costs_5 : decode cX2_costs 5 = .ok (.aload_n 0, 1) := by decide +kernel
theorem dX2_costs_6 : decode cX2_costs 6 = .ok (.getfield 46, 3) := by decide +kernel
theorem dX2_costs_9 : decode cX2_costs 9 = .ok (.imul, 1) := by decide +kernel
theorem dX2_costs_10 : decode cX2_costs 10 = .ok (.iadd, 1) := by decide +kernel
theorem dX2_costs_11 : decode cX2_costs 11 = .ok (.iconst 3, 1) := by decide +kernel
theorem dX2_costs_12 : decode cX2_costs 12 = .ok (.aload_n 0, 1) := by decide +kernel
theorem dX2_costs_13 : decode cX2_costs 13 = .ok (.getfield 49, 3) := by decide +kernel
theorem dX2_costs_16 : decode cX2_costs 16 = .ok (.imul, 1) := by decide +kernel
theorem dX2_costs_17 : decode cX2_costs 17 = .ok (.iadd, 1) := by decide +kernel
theorem dX2_costs_18 : decode cX2_costs 18 = .ok (.ireturn, 1) := by decide +kernel
theorem dX2_isHeldBy_0 : decode cX2_isHeldBy 0 = .ok (.iload_n 1, 1) := by decide +kernel
theorem dX2_isHeldBy_1 : decode cX2_isHeldBy 1 = .ok (.tableswitch 99 1 4 #[82, 65, 48, 31], 31) := by decide +kernel
theorem dX2_isHeldBy_32 : decode cX2_isHeldBy 32 = .ok (.aload_n 0, 1) := by decide +kernel
theorem dX2_isHeldBy_33 : decode cX2_isHeldBy 33 = .ok (.getfield 25, 3) := by decide +kernel
theorem dX2_isHeldBy_36 : decode cX2_isHeldBy 36 = .ok (.aload_n 0, 1) := by decide +kernel
theorem dX2_isHeldBy_37 : decode cX2_isHeldBy 37 = .ok (.getfield 61, 3) := by decide +kernel
theorem dX2_isHeldBy_40 : decode cX2_isHeldBy 40 = .ok (.if_icmp .ge 7, 3) := by decide +kernel
theorem dX2_isHeldBy_43 : decode cX2_isHeldBy 43 = .ok (.iconst 1, 1) := by decide +kernel
theorem dX2_isHeldBy_44 : decode cX2_isHeldBy 44 = .ok (.goto 4, 3) := by decide +kernel
theorem dX2_isHeldBy_47 : decode cX2_isHeldBy 47 = .ok (.iconst 0, 1) := by decide +kernel
theorem dX2_isHeldBy_48 : decode cX2_isHeldBy 48 = .ok (.ireturn, 1) := by decide +kernel
theorem dX2_isHeldBy_49 : decode cX2_isHeldBy 49 = .ok (.aload_n 0, 1) := by decide +kernel
theorem dX2_isHeldBy_50 : decode cX2_isHeldBy 50 = .ok (.getfield 61, 3) := by decide +kernel
theorem dX2_isHeldBy_53 : decode cX2_isHeldBy 53 = .ok (.aload_n 0, 1) := by decide +kernel
theorem dX2_isHeldBy_54 : decode cX2_isHeldBy 54 = .ok (.getfield 58, 3) := by decide +kernel
theorem dX2_isHeldBy_57 : decode cX2_isHeldBy 57 = .ok (.if_icmp .eq 7, 3) := by decide +kernel
theorem dX2_isHeldBy_60 : decode cX2_isHeldBy 60 = .ok (.iconst 1, 1) := by decide +kernel
theorem dX2_isHeldBy_61 : decode cX2_isHeldBy 61 = .ok (.goto 4, 3) := by decide +kernel
theorem dX2_isHeldBy_64 : decode cX2_isHeldBy 64 = .ok (.iconst 0, 1) := by decide +kernel
theorem dX2_isHeldBy_65 : decode cX2_isHeldBy 65 = .ok (.ireturn, 1) := by decide +kernel
theorem dX2_isHeldBy_66 : decode cX2_isHeldBy 66 = .ok (.aload_n 0, 1) := by decide +kernel
theorem dX2_isHeldBy_67 : decode cX2_isHeldBy 67 = .ok (.getfield 58, 3) := by decide +kernel
theorem dX2_isHeldBy_70 : decode cX2_isHeldBy 70 = .ok (.aload_n 0, 1) := by decide +kernel
theorem dX2_isHeldBy_71 : decode cX2_isHeldBy 71 = .ok (.getfield 55, 3) := by decide +kernel
theorem dX2_isHeldBy_74 : decode cX2_isHeldBy 74 = .ok (.if_icmp .eq 7, 3) := by decide +kernel
theorem dX2_isHeldBy_77 : decode cX2_isHeldBy 77 = .ok (.iconst 1, 1) := by decide +kernel
theorem dX2_isHeldBy_78 : decode cX2_isHeldBy 78 = .ok (.goto 4, 3) := by decide +kernel
theorem dX2_isHeldBy_81 : decode cX2_isHeldBy 81 = .ok (.iconst 0, 1) := by decide +kernel
theorem dX2_isHeldBy_82 : decode cX2_isHeldBy 82 = .ok (.ireturn, 1) := by decide +kernel
theorem dX2_isHeldBy_83 : decode cX2_isHeldBy 83 = .ok (.aload_n 0, 1) := by decide +kernel
theorem dX2_isHeldBy_84 : decode cX2_isHeldBy 84 = .ok (.getfield 55, 3) := by decide +kernel
theorem dX2_isHeldBy_87 : decode cX2_isHeldBy 87 = .ok (.aload_n 0, 1) := by decide +kernel
theorem dX2_isHeldBy_88 : decode cX2_isHeldBy 88 = .ok (.getfield 52, 3) := by decide +kernel
theorem dX2_isHeldBy_91 : decode cX2_isHeldBy 91 = .ok (.if_icmp .eq 7, 3) := by decide +kernel
theorem dX2_isHeldBy_94 : decode cX2_isHeldBy 94 = .ok (.iconst 1, 1) := by decide +kernel
theorem dX2_isHeldBy_95 : decode cX2_isHeldBy 95 = .ok (.goto 4, 3) := by decide +kernel
theorem dX2_isHeldBy_98 : decode cX2_isHeldBy 98 = .ok (.iconst 0, 1) := by decide +kernel
theorem dX2_isHeldBy_99 : decode cX2_isHeldBy 99 = .ok (.ireturn, 1) := by decide +kernel
theorem dX2_isHeldBy_100 : decode cX2_isHeldBy 100 = .ok (.iconst 0, 1) := by decide +kernel
theorem dX2_isHeldBy_101 : decode cX2_isHeldBy 101 = .ok (.ireturn, 1) := by decide +kernel
theorem dX3_init_0 : decode cX3_init 0 = .ok (.aload_n 0, 1) := by decide +kernel
theorem dX3_init_1 : decode cX3_init 1 = .ok (.invokespecial 3, 3) := by decide +kernel
theorem dX3_init_4 : decode cX3_init 4 = .ok (.aload_n 0, 1) := by decide +kernel
theorem dX3_init_5 : decode cX3_init 5 = .ok (.sipush 160, 3) := by decide +kernel
theorem dX3_init_8 : decode cX3_init 8 = .ok (.newarray .int, 2) := by decide +kernel
theorem dX3_init_10 : decode cX3_init 10 = .ok (.putfield 9, 3) := by decide +kernel
theorem dX3_init_13 : decode cX3_init 13 = .ok (.aload_n 0, 1) := by decide +kernel
theorem dX3_init_14 : decode cX3_init 14 = .ok (.iconst 0, 1) := by decide +kernel
theorem dX3_init_15 : decode cX3_init 15 = .ok (.putfield 15, 3) := by decide +kernel
theorem dX3_init_18 : decode cX3_init 18 = .ok (.aload_n 0, 1) := by decide +kernel
theorem dX3_init_19 : decode cX3_init 19 = .ok (.iconst 0, 1) := by decide +kernel
theorem dX3_init_20 : decode cX3_init 20 = .ok (.putfield 19, 3) := by decide +kernel
theorem dX3_init_23 : decode cX3_init 23 = .ok (.aload_n 0, 1) := by decide +kernel
theorem dX3_init_24 : decode cX3_init 24 = .ok (.iconst 0, 1) := by decide +kernel
theorem dX3_init_25 : decode cX3_init 25 = .ok (.putfield 22, 3) := by decide +kernel
theorem dX3_init_28 : decode cX3_init 28 = .ok (.aload_n 0, 1) := by decide +kernel
theorem dX3_init_29 : decode cX3_init 29 = .ok (.iconst (-1), 1) := by decide +kernel
theorem dX3_init_30 : decode cX3_init 30 = .ok (.putfield 25, 3) := by decide +kernel
theorem dX3_init_33 : decode cX3_init 33 = .ok (.aload_n 0, 1) := by decide +kernel
theorem dX3_init_34 : decode cX3_init 34 = .ok (.iconst 0, 1) := by decide +kernel
theorem dX3_init_35 : decode cX3_init 35 = .ok (.putfield 28, 3) := by decide +kernel
theorem dX3_init_38 : decode cX3_init 38 = .ok (.aload_n 0, 1) := by decide +kernel
theorem dX3_init_39 : decode cX3_init 39 = .ok (.iconst 0, 1) := by decide +kernel
theorem dX3_init_40 : decode cX3_init 40 = .ok (.putfield 31, 3) := by decide +kernel
theorem dX3_init_43 : decode cX3_init 43 = .ok (.return_, 1) := by decide +kernel
theorem dX3_takesIn_0 : decode cX3_takesIn 0 = .ok (.aload_n 0, 1) := by decide +kernel
theorem dX3_takesIn_1 : decode cX3_takesIn 1 = .ok (.getfield 15, 3) := by decide +kernel
theorem dX3_takesIn_4 : decode cX3_takesIn 4 = .ok (.sipush 160, 3) := by decide +kernel
theorem dX3_takesIn_7 : decode cX3_takesIn 7 = .ok (.if_icmp .lt 5, 3) := by decide +kernel
theorem dX3_takesIn_10 : decode cX3_takesIn 10 = .ok (.iconst 0, 1) := by decide +kernel
theorem dX3_takesIn_11 : decode cX3_takesIn 11 = .ok (.ireturn, 1) := by decide +kernel
theorem dX3_takesIn_12 : decode cX3_takesIn 12 = .ok (.aload_n 0, 1) := by decide +kernel
theorem dX3_takesIn_13 : decode cX3_takesIn 13 = .ok (.getfield 9, 3) := by decide +kernel
theorem dX3_takesIn_16 : decode cX3_takesIn 16 = .ok (.aload_n 0, 1) := by decide +kernel
theorem dX3_takesIn_17 : decode cX3_takesIn 17 = .ok (.getfield 15, 3) := by decide +kernel
theorem dX3_takesIn_20 : decode cX3_takesIn 20 = .ok (.iload_n 1, 1) := by decide +kernel
theorem dX3_takesIn_21 : decode cX3_takesIn 21 = .ok (.iastore, 1) := by decide +kernel
theorem dX3_takesIn_22 : decode cX3_takesIn 22 = .ok (.aload_n 0, 1) := by decide +kernel
theorem dX3_takesIn_23 : decode cX3_takesIn 23 = .ok (.dup, 1) := by decide +kernel
theorem dX3_takesIn_24 : decode cX3_takesIn 24 = .ok (.getfield 15, 3) := by decide +kernel
theorem dX3_takesIn_27 : decode cX3_takesIn 27 = .ok (.iconst 1, 1) := by decide +kernel
theorem dX3_takesIn_28 : decode cX3_takesIn 28 = .ok (.iadd, 1) := by decide +kernel
theorem dX3_takesIn_29 : decode cX3_takesIn 29 = .ok (.putfield 15, 3) := by decide +kernel
theorem dX3_takesIn_32 : decode cX3_takesIn 32 = .ok (.iconst 1, 1) := by decide +kernel
theorem dX3_takesIn_33 : decode cX3_takesIn 33 = .ok (.ireturn, 1) := by decide +kernel
theorem dX3_readInto_0 : decode cX3_readInto 0 = .ok (.aload_n 0, 1) := by decide +kernel
theorem dX3_readInto_1 : decode cX3_readInto 1 = .ok (.iconst 0, 1) := by decide +kernel
theorem dX3_readInto_2 : decode cX3_readInto 2 = .ok (.putfield 19, 3) := by decide +kernel
theorem dX3_readInto_5 : decode cX3_readInto 5 = .ok (.aload_n 0, 1) := by decide +kernel
theorem dX3_readInto_6 : decode cX3_readInto 6 = .ok (.iconst 0, 1) := by decide +kernel
theorem dX3_readInto_7 : decode cX3_readInto 7 = .ok (.putfield 31, 3) := by decide +kernel
theorem dX3_readInto_10 : decode cX3_readInto 10 = .ok (.aload_n 1, 1) := by decide +kernel
theorem dX3_readInto_11 : decode cX3_readInto 11 = .ok (.iconst 0, 1) := by decide +kernel
theorem dX3_readInto_12 : decode cX3_readInto 12 = .ok (.putfield 34, 3) := by decide +kernel
theorem dX3_readInto_15 : decode cX3_readInto 15 = .ok (.aload_n 0, 1) := by decide +kernel
theorem dX3_readInto_16 : decode cX3_readInto 16 = .ok (.invokevirtual 39, 3) := by decide +kernel
theorem dX3_readInto_19 : decode cX3_readInto 19 = .ok (.aload_n 0, 1) := by decide +kernel
theorem dX3_readInto_20 : decode cX3_readInto 20 = .ok (.aload_n 1, 1) := by decide +kernel
theorem dX3_readInto_21 : decode cX3_readInto 21 = .ok (.invokevirtual 42, 3) := by decide +kernel
theorem dX3_readInto_24 : decode cX3_readInto 24 = .ok (.ifCond .eq 15, 3) := by decide +kernel
theorem dX3_readInto_27 : decode cX3_readInto 27 = .ok (.aload_n 0, 1) := by decide +kernel
theorem dX3_readInto_28 : decode cX3_readInto 28 = .ok (.aload_n 1, 1) := by decide +kernel
theorem dX3_readInto_29 : decode cX3_readInto 29 = .ok (.invokevirtual 46, 3) := by decide +kernel
theorem dX3_readInto_32 : decode cX3_readInto 32 = .ok (.ifCond .eq 7, 3) := by decide +kernel
theorem dX3_readInto_35 : decode cX3_readInto 35 = .ok (.iconst 1, 1) := by decide +kernel
theorem dX3_readInto_36 : decode cX3_readInto 36 = .ok (.goto 4, 3) := by decide +kernel
theorem dX3_readInto_39 : decode cX3_readInto 39 = .ok (.iconst 0, 1) := by decide +kernel
theorem dX3_readInto_40 : decode cX3_readInto 40 = .ok (.ireturn, 1) := by decide +kernel
theorem dX3_readHouse_0 : decode cX3_readHouse 0 = .ok (.aload_n 0, 1) := by decide +kernel
theorem dX3_readHouse_1 : decode cX3_readHouse 1 = .ok (.bipush 104, 2) := by decide +kernel
theorem dX3_readHouse_3 : decode cX3_readHouse 3 = .ok (.invokevirtual 49, 3) := by decide +kernel
theorem dX3_readHouse_6 : decode cX3_readHouse 6 = .ok (.ifCond .ne 5, 3) := by decide +kernel
theorem dX3_readHouse_9 : decode cX3_readHouse 9 = .ok (.iconst 0, 1) := by decide +kernel
theorem dX3_readHouse_10 : decode cX3_readHouse 10 = .ok (.ireturn, 1) := by decide +kernel
theorem dX3_readHouse_11 : decode cX3_readHouse 11 = .ok (.iconst 0, 1) := by decide +kernel
theorem dX3_readHouse_12 : decode cX3_readHouse 12 = .ok (.istore_n 2, 1) := by decide +kernel
theorem dX3_readHouse_13 : decode cX3_readHouse 13 = .ok (.iload_n 2, 1) := by decide +kernel
theorem dX3_readHouse_14 : decode cX3_readHouse 14 = .ok (.iconst 5, 1) := by decide +kernel
theorem dX3_readHouse_15 : decode cX3_readHouse 15 = .ok (.if_icmp .ge 63, 3) := by decide +kernel
theorem dX3_readHouse_18 : decode cX3_readHouse 18 = .ok (.aload_n 0, 1) := by decide +kernel
theorem dX3_readHouse_19 : decode cX3_readHouse 19 = .ok (.getstatic 53, 3) := by decide +kernel
theorem dX3_readHouse_22 : decode cX3_readHouse 22 = .ok (.iload_n 2, 1) := by decide +kernel
theorem dX3_readHouse_23 : decode cX3_readHouse 23 = .ok (.iaload, 1) := by decide +kernel
theorem dX3_readHouse_24 : decode cX3_readHouse 24 = .ok (.getstatic 56, 3) := by decide +kernel
theorem dX3_readHouse_27 : decode cX3_readHouse 27 = .ok (.iload_n 2, 1) := by decide +kernel
theorem dX3_readHouse_28 : decode cX3_readHouse 28 = .ok (.iaload, 1) := by decide +kernel
theorem dX3_readHouse_29 : decode cX3_readHouse 29 = .ok (.invokevirtual 59, 3) := by decide +kernel
theorem dX3_readHouse_32 : decode cX3_readHouse 32 = .ok (.ifCond .ne 5, 3) := by decide +kernel
theorem dX3_readHouse_35 : decode cX3_readHouse 35 = .ok (.iconst 0, 1) := by decide +kernel
theorem dX3_readHouse_36 : decode cX3_readHouse 36 = .ok (.ireturn, 1) := by decide +kernel
theorem dX3_readHouse_37 : decode cX3_readHouse 37 = .ok (.aload_n 1, 1) := by decide +kernel
theorem dX3_readHouse_38 : decode cX3_readHouse 38 = .ok (.getfield 63, 3) := by decide +kernel
theorem dX3_readHouse_41 : decode cX3_readHouse 41 = .ok (.iload_n 2, 1) := by decide +kernel
theorem dX3_readHouse_42 : decode cX3_readHouse 42 = .ok (.aload_n 0, 1) := by decide +kernel
theorem dX3_readHouse_43 : decode cX3_readHouse 43 = .ok (.getfield 28, 3) := by decide +kernel
theorem dX3_readHouse_46 : decode cX3_readHouse 46 = .ok (.iastore, 1) := by decide +kernel
theorem dX3_readHouse_47 : decode cX3_readHouse 47 = .ok (.aload_n 0, 1) := by decide +kernel
theorem dX3_readHouse_48 : decode cX3_readHouse 48 = .ok (.invokevirtual 39, 3) := by decide +kernel
theorem dX3_readHouse_51 : decode cX3_readHouse 51 = .ok (.aload_n 0, 1) := by decide +kernel
theorem dX3_readHouse_52 : decode cX3_readHouse 52 = .ok (.iload_n 2, 1) := by decide +kernel
theorem dX3_readHouse_53 : decode cX3_readHouse 53 = .ok (.iconst 4, 1) := by decide +kernel
theorem dX3_readHouse_54 : decode cX3_readHouse 54 = .ok (.if_icmp .ne 8, 3) := by decide +kernel
theorem dX3_readHouse_57 : decode cX3_readHouse 57 = .ok (.bipush 59, 2) := by decide +kernel
theorem dX3_readHouse_59 : decode cX3_readHouse 59 = .ok (.goto 5, 3) := by decide +kernel
theorem dX3_readHouse_62 : decode cX3_readHouse 62 = .ok (.bipush 44, 2) := by decide +kernel
theorem dX3_readHouse_64 : decode cX3_readHouse 64 = .ok (.invokevirtual 49, 3) := by decide +kernel
theorem dX3_readHouse_67 : decode cX3_readHouse 67 = .ok (.ifCond .ne 5, 3) := by decide +kernel
theorem dX3_readHouse_70 : decode cX3_readHouse 70 = .ok (.iconst 0, 1) := by decide +kernel
theorem dX3_readHouse_71 : decode cX3_readHouse 71 = .ok (.ireturn, 1) := by decide +kernel
theorem dX3_readHouse_72 : decode cX3_readHouse 72 = .ok (.iinc 2 1, 3) := by decide +kernel
theorem dX3_readHouse_75 : decode cX3_readHouse 75 = .ok (.goto (-62), 3) := by decide +kernel
theorem dX3_readHouse_78 : decode cX3_readHouse 78 = .ok (.iconst 1, 1) := by decide +kernel
theorem dX3_readHouse_79 : decode cX3_readHouse 79 = .ok (.ireturn, 1) := by decide +kernel
theorem dX3_readServices_0 : decode cX3_readServices 0 = .ok (.iconst 0, 1) := by decide +kernel
theorem dX3_readServices_1 : decode cX3_readServices 1 = .ok (.istore_n 2, 1) := by decide +kernel
theorem dX3_readServices_2 : decode cX3_readServices 2 = .ok (.iload_n 2, 1) := by decide +kernel
theorem dX3_readServices_3 : decode cX3_readServices 3 = .ok (.iconst 4, 1) := by decide +kernel
theorem dX3_readServices_4 : decode cX3_readServices 4 = .ok (.if_icmp .ge 68, 3) := by decide +kernel
theorem dX3_readServices_7 : decode cX3_readServices 7 = .ok (.iload_n 2, 1) := by decide +kernel
theorem dX3_readServices_8 : decode cX3_readServices 8 = .ok (.ifCond .le 13, 3) := by decide +kernel
theorem dX3_readServices_11 : decode cX3_readServices 11 = .ok (.aload_n 0, 1) := by decide +kernel
theorem dX3_readServices_12 : decode cX3_readServices 12 = .ok (.getfield 25, 3) := by decide +kernel
theorem dX3_readServices_15 : decode cX3_readServices 15 = .ok (.iconst (-1), 1) := by decide +kernel
theorem dX3_readServices_16 : decode cX3_readServices 16 = .ok (.if_icmp .ne 5, 3) := by decide +kernel
theorem dX3_readServices_19 : decode cX3_readServices 19 = .ok (.iconst 1, 1) := by decide +kernel
theorem dX3_readServices_20 : decode cX3_readServices 20 = .ok (.ireturn, 1) := by decide +kernel
theorem dX3_readServices_21 : decode cX3_readServices 21 = .ok (.aload_n 0, 1) := by decide +kernel
theorem dX3_readServices_22 : decode cX3_readServices 22 = .ok (.bipush 115, 2) := by decide +kernel
theorem dX3_readServices_24 : decode cX3_readServices 24 = .ok (.invokevirtual 49, 3) := by decide +kernel
theorem dX3_readServices_27 : decode cX3_readServices 27 = .ok (.ifCond .eq 30, 3) := by decide +kernel
theorem dX3_readServices_30 : decode cX3_readServices 30 = .ok (.aload_n 0, 1) := by decide +kernel
theorem dX3_readServices_31 : decode cX3_readServices 31 = .ok (.aload_n 1, 1) := by decide +kernel
theorem dX3_readServices_32 : decode cX3_readServices 32 = .ok (.aload_n 1, 1) := by decide +kernel
theorem dX3_readServices_33 : decode cX3_readServices 33 = .ok (.getfield 66, 3) := by decide +kernel
theorem dX3_readServices_36 : decode cX3_readServices 36 = .ok (.iload_n 2, 1) := by decide +kernel
theorem dX3_readServices_37 : decode cX3_readServices 37 = .ok (.aaload, 1) := by decide +kernel
theorem dX3_readServices_38 : decode cX3_readServices 38 = .ok (.invokevirtual 70, 3) := by decide +kernel
theorem dX3_readServices_41 : decode cX3_readServices 41 = .ok (.ifCond .eq 16, 3) := by decide +kernel
theorem dX3_readServices_44 : decode cX3_readServices 44 = .ok (.aload_n 0, 1) := by decide +kernel
theorem dX3_readServices_45 : decode cX3_readServices 45 = .ok (.aload_n 1, 1) := by decide +kernel
theorem dX3_readServices_46 : decode cX3_readServices 46 = .ok (.getfield 66, 3) := by decide +kernel
theorem dX3_readServices_49 : decode cX3_readServices 49 = .ok (.iload_n 2, 1) := by decide +kernel
theorem dX3_readServices_50 : decode cX3_readServices 50 = .ok (.aaload, 1) := by decide +kernel
theorem dX3_readServices_51 : decode cX3_readServices 51 = .ok (.invokevirtual 74, 3) := by decide +kernel
theorem dX3_readServices_54 : decode cX3_readServices 54 = .ok (.ifCond .ne 5, 3) := by decide +kernel
theorem dX3_readServices_57 : decode cX3_readServices 57 = .ok (.iconst 0, 1) := by decide +kernel
theorem dX3_readServices_58 : decode cX3_readServices 58 = .ok (.ireturn, 1) := by decide +kernel
theorem dX3_readServices_59 : decode cX3_readServices 59 = .ok (.aload_n 1, 1) := by decide +kernel
theorem dX3_readServices_60 : decode cX3_readServices 60 = .ok (.iload_n 2, 1) := by decide +kernel
theorem dX3_readServices_61 : decode cX3_readServices 61 = .ok (.iconst 1, 1) := by decide +kernel
theorem dX3_readServices_62 : decode cX3_readServices 62 = .ok (.iadd, 1) := by decide +kernel
theorem dX3_readServices_63 : decode cX3_readServices 63 = .ok (.putfield 34, 3) := by decide +kernel
theorem dX3_readServices_66 : decode cX3_readServices 66 = .ok (.iinc 2 1, 3) := by decide +kernel
theorem dX3_readServices_69 : decode cX3_readServices 69 = .ok (.goto (-67), 3) := by decide +kernel
theorem dX3_readServices_72 : decode cX3_readServices 72 = .ok (.aload_n 0, 1) := by decide +kernel
theorem dX3_readServices_73 : decode cX3_readServices 73 = .ok (.getfield 25, 3) := by decide +kernel
theorem dX3_readServices_76 : decode cX3_readServices 76 = .ok (.iconst (-1), 1) := by decide +kernel
theorem dX3_readServices_77 : decode cX3_readServices 77 = .ok (.if_icmp .eq 24, 3) := by decide +kernel
theorem dX3_readServices_80 : decode cX3_readServices 80 = .ok (.aload_n 0, 1) := by decide +kernel
theorem dX3_readServices_81 : decode cX3_readServices 81 = .ok (.aload_n 0, 1) := by decide +kernel
theorem dX3_readServices_82 : decode cX3_readServices 82 = .ok (.getfield 25, 3) := by decide +kernel
theorem dX3_readServices_85 : decode cX3_readServices 85 = .ok (.bipush 115, 2) := by decide +kernel
theorem dX3_readServices_87 : decode cX3_readServices 87 = .ok (.if_icmp .ne 7, 3) := by decide +kernel
theorem dX3_readServices_90 : decode cX3_readServices 90 = .ok (.iconst 3, 1) := by decide +kernel
theorem dX3_readServices_91 : decode cX3_readServices 91 = .ok (.goto 4, 3) := by decide +kernel
theorem dX3_readServices_94 : decode cX3_readServices 94 = .ok (.iconst 1, 1) := by decide +kernel
theorem dX3_readServices_95 : decode cX3_readServices 95 = .ok (.invokevirtual 78, 3) := by decide +kernel
theorem dX3_readServices_98 : decode cX3_readServices 98 = .ok (.ifCond .eq 7, 3) := by decide +kernel
theorem dX3_readServices_101 : decode cX3_readServices 101 = .ok (.iconst 1, 1) := by decide +kernel
theorem dX3_readServices_102 : decode cX3_readServices 102 = .ok (.goto 4, 3) := by decide +kernel
theorem dX3_readServices_105 : decode cX3_readServices 105 = .ok (.iconst 0, 1) := by decide +kernel
theorem dX3_readServices_106 : decode cX3_readServices 106 = .ok (.ireturn, 1) := by decide +kernel
theorem dX3_readNumbers_0 : decode cX3_readNumbers 0 = .ok (.aload_n 1, 1) := by decide +kernel
theorem dX3_readNumbers_1 : decode cX3_readNumbers 1 = .ok (.invokevirtual 81, 3) := by decide +kernel
theorem dX3_readNumbers_4 : decode cX3_readNumbers 4 = .ok (.istore_n 3, 1) := by decide +kernel
theorem dX3_readNumbers_5 : decode cX3_readNumbers 5 = .ok (.iconst 0, 1) := by decide +kernel
theorem dX3_readNumbers_6 : decode cX3_readNumbers 6 = .ok (.istore 4, 2) := by decide +kernel
theorem dX3_readNumbers_8 : decode cX3_readNumbers 8 = .ok (.iload 4, 2) := by decide +kernel
theorem dX3_readNumbers_10 : decode cX3_readNumbers 10 = .ok (.bipush 9, 2) := by decide +kernel
theorem dX3_readNumbers_12 : decode cX3_readNumbers 12 = .ok (.if_icmp .ge 122, 3) := by decide +kernel
theorem dX3_readNumbers_15 : decode cX3_readNumbers 15 = .ok (.iload 4, 2) := by decide +kernel
theorem dX3_readNumbers_17 : decode cX3_readNumbers 17 = .ok (.iconst 1, 1) := by decide +kernel
theorem dX3_readNumbers_18 : decode cX3_readNumbers 18 = .ok (.if_icmp .ne 21, 3) := by decide +kernel
theorem dX3_readNumbers_21 : decode cX3_readNumbers 21 = .ok (.getstatic 85, 3) := by decide +kernel
theorem dX3_readNumbers_24 : decode cX3_readNumbers 24 = .ok (.iload 4, 2) := by decide +kernel
theorem dX3_readNumbers_26 : decode cX3_readNumbers 26 = .ok (.iaload, 1) := by decide +kernel
theorem dX3_readNumbers_27 : decode cX3_readNumbers 27 = .ok (.aload_n 2, 1) := by decide +kernel
theorem dX3_readNumbers_28 : decode cX3_readNumbers 28 = .ok (.getfield 88, 3) := by decide +kernel
theorem dX3_readNumbers_31 : decode cX3_readNumbers 31 = .ok (.iconst 0, 1) := by decide +kernel
theorem dX3_readNumbers_32 : decode cX3_readNumbers 32 = .ok (.iaload, 1) := by decide +kernel
theorem dX3_readNumbers_33 : decode cX3_readNumbers 33 = .ok (.invokestatic 91, 3) := by decide +kernel
theorem dX3_readNumbers_36 : decode cX3_readNumbers 36 = .ok (.goto 9, 3) := by decide +kernel
theorem dX3_readNumbers_39 : decode cX3_readNumbers 39 = .ok (.getstatic 85, 3) := by decide +kernel
theorem dX3_readNumbers_42 : decode cX3_readNumbers 42 = .ok (.iload 4, 2) := by decide +kernel
theorem dX3_readNumbers_44 : decode cX3_readNumbers 44 = .ok (.iaload, 1) := by decide +kernel
theorem dX3_readNumbers_45 : decode cX3_readNumbers 45 = .ok (.istore 5, 2) := by decide +kernel
theorem dX3_readNumbers_47 : decode cX3_readNumbers 47 = .ok (.aload_n 0, 1) := by decide +kernel
theorem dX3_readNumbers_48 : decode cX3_readNumbers 48 = .ok (.iload 5, 2) := by decide +kernel
theorem dX3_readNumbers_50 : decode cX3_readNumbers 50 = .ok (.getstatic 97, 3) := by decide +kernel
theorem dX3_readNumbers_53 : decode cX3_readNumbers 53 = .ok (.iload 4, 2) := by decide +kernel
theorem dX3_readNumbers_55 : decode cX3_readNumbers 55 = .ok (.iaload, 1) := by decide +kernel
theorem dX3_readNumbers_56 : decode cX3_readNumbers 56 = .ok (.invokevirtual 59, 3) := by decide +kernel
theorem dX3_readNumbers_59 : decode cX3_readNumbers 59 = .ok (.ifCond .ne 5, 3) := by decide +kernel
theorem dX3_readNumbers_62 : decode cX3_readNumbers 62 = .ok (.iconst 0, 1) := by decide +kernel
theorem dX3_readNumbers_63 : decode cX3_readNumbers 63 = .ok (.ireturn, 1) := by decide +kernel
theorem dX3_readNumbers_64 : decode cX3_readNumbers 64 = .ok (.iload 4, 2) := by decide +kernel
theorem dX3_readNumbers_66 : decode cX3_readNumbers 66 = .ok (.ifCond .ne 24, 3) := by decide +kernel
theorem dX3_readNumbers_69 : decode cX3_readNumbers 69 = .ok (.iload_n 3, 1) := by decide +kernel
theorem dX3_readNumbers_70 : decode cX3_readNumbers 70 = .ok (.aload_n 0, 1) := by decide +kernel
theorem dX3_readNumbers_71 : decode cX3_readNumbers 71 = .ok (.getfield 28, 3) := by decide +kernel
theorem dX3_readNumbers_74 : decode cX3_readNumbers 74 = .ok (.iadd, 1) := by decide +kernel
theorem dX3_readNumbers_75 : decode cX3_readNumbers 75 = .ok (.aload_n 1, 1) := by decide +kernel
theorem dX3_readNumbers_76 : decode cX3_readNumbers 76 = .ok (.getfield 63, 3) := by decide +kernel
theorem dX3_readNumbers_79 : decode cX3_readNumbers 79 = .ok (.iconst 0, 1) := by decide +kernel
theorem dX3_readNumbers_80 : decode cX3_readNumbers 80 = .ok (.iaload, 1) := by decide +kernel
theorem dX3_readNumbers_81 : decode cX3_readNumbers 81 = .ok (.if_icmp .le 9, 3) := by decide +kernel
theorem dX3_readNumbers_84 : decode cX3_readNumbers 84 = .ok (.aload_n 0, 1) := by decide +kernel
theorem dX3_readNumbers_85 : decode cX3_readNumbers 85 = .ok (.iconst 4, 1) := by decide +kernel
theorem dX3_readNumbers_86 : decode cX3_readNumbers 86 = .ok (.invokevirtual 78, 3) := by decide +kernel
theorem dX3_readNumbers_89 : decode cX3_readNumbers 89 = .ok (.ireturn, 1) := by decide +kernel
theorem dX3_readNumbers_90 : decode cX3_readNumbers 90 = .ok (.aload_n 2, 1) := by decide +kernel
theorem dX3_readNumbers_91 : decode cX3_readNumbers 91 = .ok (.getfield 88, 3) := by decide +kernel
theorem dX3_readNumbers_94 : decode cX3_readNumbers 94 = .ok (.iload 4, 2) := by decide +kernel
theorem dX3_readNumbers_96 : decode cX3_readNumbers 96 = .ok (.aload_n 0, 1) := by decide +kernel
theorem dX3_readNumbers_97 : decode cX3_readNumbers 97 = .ok (.getfield 28, 3) := by decide +kernel
theorem dX3_readNumbers_100 : decode cX3_readNumbers 100 = .ok (.iastore, 1) := by decide +kernel
theorem dX3_readNumbers_101 : decode cX3_readNumbers 101 = .ok (.aload_n 0, 1) := by decide +kernel
theorem dX3_readNumbers_102 : decode cX3_readNumbers 102 = .ok (.invokevirtual 39, 3) := by decide +kernel
theorem dX3_readNumbers_105 : decode cX3_readNumbers 105 = .ok (.aload_n 0, 1) := by decide +kernel
theorem dX3_readNumbers_106 : decode cX3_readNumbers 106 = .ok (.iload 4, 2) := by decide +kernel
theorem dX3_readNumbers_108 : decode cX3_readNumbers 108 = .ok (.bipush 8, 2) := by decide +kernel
theorem dX3_readNumbers_110 : decode cX3_readNumbers 110 = .ok (.if_icmp .ne 8, 3) := by decide +kernel
theorem dX3_readNumbers_113 : decode cX3_readNumbers 113 = .ok (.bipush 59, 2) := by decide +kernel
theorem dX3_readNumbers_115 : decode cX3_readNumbers 115 = .ok (.goto 5, 3) := by decide +kernel
theorem dX3_readNumbers_118 : decode cX3_readNumbers 118 = .ok (.bipush 44, 2) := by decide +kernel
theorem dX3_readNumbers_120 : decode cX3_readNumbers 120 = .ok (.invokevirtual 49, 3) := by decide +kernel
theorem dX3_readNumbers_123 : decode cX3_readNumbers 123 = .ok (.ifCond .ne 5, 3) := by decide +kernel
theorem dX3_readNumbers_126 : decode cX3_readNumbers 126 = .ok (.iconst 0, 1) := by decide +kernel
theorem dX3_readNumbers_127 : decode cX3_readNumbers 127 = .ok (.ireturn, 1) := by decide +kernel
theorem dX3_readNumbers_128 : decode cX3_readNumbers 128 = .ok (.iinc 4 1, 3) := by decide +kernel
theorem dX3_readNumbers_131 : decode cX3_readNumbers 131 = .ok (.goto (-123), 3) := by decide +kernel
theorem dX3_readNumbers_134 : decode cX3_readNumbers 134 = .ok (.iconst 1, 1) := by decide +kernel
theorem dX3_readNumbers_135 : decode cX3_readNumbers 135 = .ok (.ireturn, 1) := by decide +kernel
theorem dX3_readMeasures_0 : decode cX3_readMeasures 0 = .ok (.aload_n 1, 1) := by decide +kernel
theorem dX3_readMeasures_1 : decode cX3_readMeasures 1 = .ok (.iconst 0, 1) := by decide +kernel
theorem dX3_readMeasures_2 : decode cX3_readMeasures 2 = .ok (.putfield 100, 3) := by decide +kernel
theorem dX3_readMeasures_5 : decode cX3_readMeasures 5 = .ok (.iconst 0, 1) := by decide +kernel
theorem dX3_readMeasures_6 : decode cX3_readMeasures 6 = .ok (.istore_n 2, 1) := by decide +kernel
theorem dX3_readMeasures_7 : decode cX3_readMeasures 7 = .ok (.iload_n 2, 1) := by decide +kernel
theorem dX3_readMeasures_8 : decode cX3_readMeasures 8 = .ok (.iconst 3, 1) := by decide +kernel
theorem dX3_readMeasures_9 : decode cX3_readMeasures 9 = .ok (.if_icmp .ge 85, 3) := by decide +kernel
theorem dX3_readMeasures_12 : decode cX3_readMeasures 12 = .ok (.aload_n 0, 1) := by decide +kernel
theorem dX3_readMeasures_13 : decode cX3_readMeasures 13 = .ok (.getfield 25, 3) := by decide +kernel
theorem dX3_readMeasures_16 : decode cX3_readMeasures 16 = .ok (.invokestatic 103, 3) := by decide +kernel
theorem dX3_readMeasures_19 : decode cX3_readMeasures 19 = .ok (.istore_n 3, 1) := by decide +kernel
theorem dX3_readMeasures_20 : decode cX3_readMeasures 20 = .ok (.iload_n 3, 1) := by decide +kernel
theorem dX3_readMeasures_21 : decode cX3_readMeasures 21 = .ok (.iconst (-1), 1) := by decide +kernel
theorem dX3_readMeasures_22 : decode cX3_readMeasures 22 = .ok (.if_icmp .ne 5, 3) := by decide +kernel
theorem dX3_readMeasures_25 : decode cX3_readMeasures 25 = .ok (.iconst 1, 1) := by decide +kernel
theorem dX3_readMeasures_26 : decode cX3_readMeasures 26 = .ok (.ireturn, 1) := by decide +kernel
theorem dX3_readMeasures_27 : decode cX3_readMeasures 27 = .ok (.aload_n 0, 1) := by decide +kernel
theorem dX3_readMeasures_28 : decode cX3_readMeasures 28 = .ok (.invokevirtual 39, 3) := by decide +kernel
theorem dX3_readMeasures_31 : decode cX3_readMeasures 31 = .ok (.aload_n 0, 1) := by decide +kernel
theorem dX3_readMeasures_32 : decode cX3_readMeasures 32 = .ok (.iconst 1, 1) := by decide +kernel
theorem dX3_readMeasures_33 : decode cX3_readMeasures 33 = .ok (.bipush 99, 2) := by decide +kernel
theorem dX3_readMeasures_35 : decode cX3_readMeasures 35 = .ok (.invokevirtual 59, 3) := by decide +kernel
theorem dX3_readMeasures_38 : decode cX3_readMeasures 38 = .ok (.ifCond .ne 5, 3) := by decide +kernel
theorem dX3_readMeasures_41 : decode cX3_readMeasures 41 = .ok (.iconst 0, 1) := by decide +kernel
theorem dX3_readMeasures_42 : decode cX3_readMeasures 42 = .ok (.ireturn, 1) := by decide +kernel
theorem dX3_readMeasures_43 : decode cX3_readMeasures 43 = .ok (.aload_n 1, 1) := by decide +kernel
theorem dX3_readMeasures_44 : decode cX3_readMeasures 44 = .ok (.getfield 107, 3) := by decide +kernel
theorem dX3_readMeasures_47 : decode cX3_readMeasures 47 = .ok (.iload_n 2, 1) := by decide +kernel
theorem dX3_readMeasures_48 : decode cX3_readMeasures 48 = .ok (.aaload, 1) := by decide +kernel
theorem dX3_readMeasures_49 : decode cX3_readMeasures 49 = .ok (.iload_n 3, 1) := by decide +kernel
theorem dX3_readMeasures_50 : decode cX3_readMeasures 50 = .ok (.putfield 111, 3) := by decide +kernel
theorem dX3_readMeasures_53 : decode cX3_readMeasures 53 = .ok (.aload_n 1, 1) := by decide +kernel
theorem dX3_readMeasures_54 : decode cX3_readMeasures 54 = .ok (.getfield 107, 3) := by decide +kernel
theorem dX3_readMeasures_57 : decode cX3_readMeasures 57 = .ok (.iload_n 2, 1) := by decide +kernel
theorem dX3_readMeasures_58 : decode cX3_readMeasures 58 = .ok (.aaload, 1) := by decide +kernel
theorem dX3_readMeasures_59 : decode cX3_readMeasures 59 = .ok (.aload_n 0, 1) := by decide +kernel
theorem dX3_readMeasures_60 : decode cX3_readMeasures 60 = .ok (.getfield 28, 3) := by decide +kernel
theorem dX3_readMeasures_63 : decode cX3_readMeasures 63 = .ok (.putfield 116, 3) := by decide +kernel
theorem dX3_readMeasures_66 : decode cX3_readMeasures 66 = .ok (.aload_n 0, 1) := by decide +kernel
theorem dX3_readMeasures_67 : decode cX3_readMeasures 67 = .ok (.invokevirtual 39, 3) := by decide +kernel
theorem dX3_readMeasures_70 : decode cX3_readMeasures 70 = .ok (.aload_n 0, 1) := by decide +kernel
theorem dX3_readMeasures_71 : decode cX3_readMeasures 71 = .ok (.bipush 59, 2) := by decide +kernel
theorem dX3_readMeasures_73 : decode cX3_readMeasures 73 = .ok (.invokevirtual 49, 3) := by decide +kernel
theorem dX3_readMeasures_76 : decode cX3_readMeasures 76 = .ok (.ifCond .ne 5, 3) := by decide +kernel
theorem dX3_readMeasures_79 : decode cX3_readMeasures 79 = .ok (.iconst 0, 1) := by decide +kernel
theorem dX3_readMeasures_80 : decode cX3_readMeasures 80 = .ok (.ireturn, 1) := by decide +kernel
theorem dX3_readMeasures_81 : decode cX3_readMeasures 81 = .ok (.aload_n 1, 1) := by decide +kernel
theorem dX3_readMeasures_82 : decode cX3_readMeasures 82 = .ok (.iload_n 2, 1) := by decide +kernel
theorem dX3_readMeasures_83 : decode cX3_readMeasures 83 = .ok (.iconst 1, 1) := by decide +kernel
theorem dX3_readMeasures_84 : decode cX3_readMeasures 84 = .ok (.iadd, 1) := by decide +kernel
theorem dX3_readMeasures_85 : decode cX3_readMeasures 85 = .ok (.putfield 100, 3) := by decide +kernel
theorem dX3_readMeasures_88 : decode cX3_readMeasures 88 = .ok (.iinc 2 1, 3) := by decide +kernel
theorem dX3_readMeasures_91 : decode cX3_readMeasures 91 = .ok (.goto (-84), 3) := by decide +kernel
theorem dX3_readMeasures_94 : decode cX3_readMeasures 94 = .ok (.aload_n 0, 1) := by decide +kernel
theorem dX3_readMeasures_95 : decode cX3_readMeasures 95 = .ok (.getfield 25, 3) := by decide +kernel
theorem dX3_readMeasures_98 : decode cX3_readMeasures 98 = .ok (.invokestatic 103, 3) := by decide +kernel
theorem dX3_readMeasures_101 : decode cX3_readMeasures 101 = .ok (.iconst (-1), 1) := by decide +kernel
theorem dX3_readMeasures_102 : decode cX3_readMeasures 102 = .ok (.if_icmp .eq 11, 3) := by decide +kernel
theorem dX3_readMeasures_105 : decode cX3_readMeasures 105 = .ok (.aload_n 0, 1) := by decide +kernel
theorem dX3_readMeasures_106 : decode cX3_readMeasures 106 = .ok (.iconst 3, 1) := by decide +kernel
theorem dX3_readMeasures_107 : decode cX3_readMeasures 107 = .ok (.invokevirtual 78, 3) := by decide +kernel
theorem dX3_readMeasures_110 : decode cX3_readMeasures 110 = .ok (.ifCond .eq 7, 3) := by decide +kernel
theorem dX3_readMeasures_113 : decode cX3_readMeasures 113 = .ok (.iconst 1, 1) := by decide +kernel
theorem dX3_readMeasures_114 : decode cX3_readMeasures 114 = .ok (.goto 4, 3) := by decide +kernel
theorem dX3_readMeasures_117 : decode cX3_readMeasures 117 = .ok (.iconst 0, 1) := by decide +kernel
theorem dX3_readMeasures_118 : decode cX3_readMeasures 118 = .ok (.ireturn, 1) := by decide +kernel
theorem dX3_kindOf_0 : decode cX3_kindOf 0 = .ok (.iload_n 0, 1) := by decide +kernel
theorem dX3_kindOf_1 : decode cX3_kindOf 1 = .ok (.lookupswitch 51 #[(97, 47), (102, 45), (113, 49), (116, 43)], 43) := by decide +kernel
theorem dX3_kindOf_44 : decode cX3_kindOf 44 = .ok (.iconst 1, 1) := by decide +kernel
theorem dX3_kindOf_45 : decode cX3_kindOf 45 = .ok (.ireturn, 1) := by decide +kernel
theorem dX3_kindOf_46 : decode cX3_kindOf 46 = .ok (.iconst 2, 1) := by decide +kernel
theorem dX3_kindOf_47 : decode cX3_kindOf 47 = .ok (.ireturn, 1) := by decide +kernel
theorem dX3_kindOf_48 : decode cX3_kindOf 48 = .ok (.iconst 3, 1) := by decide +kernel
theorem dX3_kindOf_49 : decode cX3_kindOf 49 = .ok (.ireturn, 1) := by decide +kernel
theorem dX3_kindOf_50 : decode cX3_kindOf 50 = .ok (.iconst 4, 1) := by decide +kernel
theorem dX3_kindOf_51 : decode cX3_kindOf 51 = .ok (.ireturn, 1) := by decide +kernel
theorem dX3_kindOf_52 : decode cX3_kindOf 52 = .ok (.iconst (-1), 1) := by decide +kernel
theorem dX3_kindOf_53 : decode cX3_kindOf 53 = .ok (.ireturn, 1) := by decide +kernel
theorem dX3_passes_0 : decode cX3_passes 0 = .ok (.aload_n 0, 1) := by decide +kernel
theorem dX3_passes_1 : decode cX3_passes 1 = .ok (.getfield 25, 3) := by decide +kernel
theorem dX3_passes_4 : decode cX3_passes 4 = .ok (.iload_n 1, 1) := by decide +kernel
theorem dX3_passes_5 : decode cX3_passes 5 = .ok (.if_icmp .eq 9, 3) := by decide +kernel
theorem dX3_passes_8 : decode cX3_passes 8 = .ok (.aload_n 0, 1) := by decide +kernel
theorem dX3_passes_9 : decode cX3_passes 9 = .ok (.iconst 1, 1) := by decide +kernel
theorem dX3_passes_10 : decode cX3_passes 10 = .ok (.invokevirtual 78, 3) := by decide +kernel
theorem dX3_passes_13 : decode cX3_passes 13 = .ok (.ireturn, 1) := by decide +kernel
theorem dX3_passes_14 : decode cX3_passes 14 = .ok (.aload_n 0, 1) := by decide +kernel
theorem dX3_passes_15 : decode cX3_passes 15 = .ok (.invokevirtual 39, 3) := by decide +kernel
theorem dX3_passes_18 : decode cX3_passes 18 = .ok (.iconst 1, 1) := by decide +kernel
theorem dX3_passes_19 : decode cX3_passes 19 = .ok (.ireturn, 1) := by decide +kernel
theorem dX3_isNumber_0 : decode cX3_isNumber 0 = .ok (.aload_n 0, 1) := by decide +kernel
theorem dX3_isNumber_1 : decode cX3_isNumber 1 = .ok (.getfield 25, 3) := by decide +kernel
theorem dX3_isNumber_4 : decode cX3_isNumber 4 = .ok (.bipush (-2), 2) := by decide +kernel
theorem dX3_isNumber_6 : decode cX3_isNumber 6 = .ok (.if_icmp .eq 9, 3) := by decide +kernel
theorem dX3_isNumber_9 : decode cX3_isNumber 9 = .ok (.aload_n 0, 1) := by decide +kernel
theorem dX3_isNumber_10 : decode cX3_isNumber 10 = .ok (.iconst 1, 1) := by decide +kernel
theorem dX3_isNumber_11 : decode cX3_isNumber 11 = .ok (.invokevirtual 78, 3) := by decide +kernel
theorem dX3_isNumber_14 : decode cX3_isNumber 14 = .ok (.ireturn, 1) := by decide +kernel
theorem dX3_isNumber_15 : decode cX3_isNumber 15 = .ok (.aload_n 0, 1) := by decide +kernel
theorem dX3_isNumber_16 : decode cX3_isNumber 16 = .ok (.getfield 28, 3) := by decide +kernel
theorem dX3_isNumber_19 : decode cX3_isNumber 19 = .ok (.iload_n 1, 1) := by decide +kernel
theorem dX3_isNumber_20 : decode cX3_isNumber 20 = .ok (.if_icmp .lt 11, 3) := by decide +kernel
theorem dX3_isNumber_23 : decode cX3_isNumber 23 = .ok (.aload_n 0, 1) := by decide +kernel
theorem dX3_isNumber_24 : decode cX3_isNumber 24 = .ok (.getfield 28, 3) := by decide +kernel
theorem dX3_isNumber_27 : decode cX3_isNumber 27 = .ok (.iload_n 2, 1) := by decide +kernel
theorem dX3_isNumber_28 : decode cX3_isNumber 28 = .ok (.if_icmp .le 9, 3) := by decide +kernel
theorem dX3_isNumber_31 : decode cX3_isNumber 31 = .ok (.aload_n 0, 1) := by decide +kernel
theorem dX3_isNumber_32 : decode cX3_isNumber 32 = .ok (.iconst 2, 1) := by decide +kernel
theorem dX3_isNumber_33 : decode cX3_isNumber 33 = .ok (.invokevirtual 78, 3) := by decide +kernel
theorem dX3_isNumber_36 : decode cX3_isNumber 36 = .ok (.ireturn, 1) := by decide +kernel
theorem dX3_isNumber_37 : decode cX3_isNumber 37 = .ok (.iconst 1, 1) := by decide +kernel
theorem dX3_isNumber_38 : decode cX3_isNumber 38 = .ok (.ireturn, 1) := by decide +kernel
theorem dX3_fails_0 : decode cX3_fails 0 = .ok (.aload_n 0, 1) := by decide +kernel
theorem dX3_fails_1 : decode cX3_fails 1 = .ok (.iload_n 1, 1) := by decide +kernel
theorem dX3_fails_2 : decode cX3_fails 2 = .ok (.putfield 31, 3) := by decide +kernel
theorem dX3_fails_5 : decode cX3_fails 5 = .ok (.iconst 0, 1) := by decide +kernel
theorem dX3_fails_6 : decode cX3_fails 6 = .ok (.ireturn, 1) := by decide +kernel
theorem dX3_step_0 : decode cX3_step 0 = .ok (.aload_n 0, 1) := by decide +kernel
theorem dX3_step_1 : decode cX3_step 1 = .ok (.getfield 19, 3) := by decide +kernel
theorem dX3_step_4 : decode cX3_step 4 = .ok (.aload_n 0, 1) := by decide +kernel
theorem dX3_step_5 : decode cX3_step 5 = .ok (.getfield 15, 3) := by decide +kernel
theorem dX3_step_8 : decode cX3_step 8 = .ok (.if_icmp .ge 40, 3) := by decide +kernel
theorem dX3_step_11 : decode cX3_step 11 = .ok (.aload_n 0, 1) := by decide +kernel
theorem dX3_step_12 : decode cX3_step 12 = .ok (.getfield 19, 3) := by decide +kernel
theorem dX3_step_15 : decode cX3_step 15 = .ok (.sipush 160, 3) := by decide +kernel
theorem dX3_step_18 : decode cX3_step 18 = .ok (.if_icmp .ge 30, 3) := by decide +kernel
theorem dX3_step_21 : decode cX3_step 21 = .ok (.aload_n 0, 1) := by decide +kernel
theorem dX3_step_22 : decode cX3_step 22 = .ok (.getfield 9, 3) := by decide +kernel
theorem dX3_step_25 : decode cX3_step 25 = .ok (.aload_n 0, 1) := by decide +kernel
theorem dX3_step_26 : decode cX3_step 26 = .ok (.getfield 19, 3) := by decide +kernel
theorem dX3_step_29 : decode cX3_step 29 = .ok (.iaload, 1) := by decide +kernel
theorem dX3_step_30 : decode cX3_step 30 = .ok (.bipush 32, 2) := by decide +kernel
theorem dX3_step_32 : decode cX3_step 32 = .ok (.if_icmp .ne 16, 3) := by decide +kernel
theorem dX3_step_35 : decode cX3_step 35 = .ok (.aload_n 0, 1) := by decide +kernel
theorem dX3_step_36 : decode cX3_step 36 = .ok (.dup, 1) := by decide +kernel
theorem dX3_step_37 : decode cX3_step 37 = .ok (.getfield 19, 3) := by decide +kernel
theorem dX3_step_40 : decode cX3_step 40 = .ok (.iconst 1, 1) := by decide +kernel
theorem dX3_step_41 : decode cX3_step 41 = .ok (.iadd, 1) := by decide +kernel
theorem dX3_step_42 : decode cX3_step 42 = .ok (.putfield 19, 3) := by decide +kernel
theorem dX3_step_45 : decode cX3_step 45 = .ok (.goto (-45), 3) := by decide +kernel
theorem dX3_step_48 : decode cX3_step 48 = .ok (.aload_n 0, 1) := by decide +kernel
theorem dX3_step_49 : decode cX3_step 49 = .ok (.aload_n 0, 1) := by decide +kernel
theorem dX3_step_50 : decode cX3_step 50 = .ok (.getfield 19, 3) := by decide +kernel
theorem dX3_step_53 : decode cX3_step 53 = .ok (.putfield 22, 3) := by decide +kernel
theorem dX3_step_56 : decode cX3_step 56 = .ok (.aload_n 0, 1) := by decide +kernel
theorem dX3_step_57 : decode cX3_step 57 = .ok (.getfield 19, 3) := by decide +kernel
theorem dX3_step_60 : decode cX3_step 60 = .ok (.aload_n 0, 1) := by decide +kernel
theorem dX3_step_61 : decode cX3_step 61 = .ok (.getfield 15, 3) := by decide +kernel
theorem dX3_step_64 : decode cX3_step 64 = .ok (.if_icmp .ge 13, 3) := by decide +kernel
theorem dX3_step_67 : decode cX3_step 67 = .ok (.aload_n 0, 1) := by decide +kernel
theorem dX3_step_68 : decode cX3_step 68 = .ok (.getfield 19, 3) := by decide +kernel
theorem dX3_step_71 : decode cX3_step 71 = .ok (.sipush 160, 3) := by decide +kernel
theorem dX3_step_74 : decode cX3_step 74 = .ok (.if_icmp .lt 9, 3) := by decide +kernel
theorem dX3_step_77 : decode cX3_step 77 = .ok (.aload_n 0, 1) := by decide +kernel
theorem dX3_step_78 : decode cX3_step 78 = .ok (.iconst (-1), 1) := by decide +kernel
theorem dX3_step_79 : decode cX3_step 79 = .ok (.putfield 25, 3) := by decide +kernel
theorem dX3_step_82 : decode cX3_step 82 = .ok (.return_, 1) := by decide +kernel
theorem dX3_step_83 : decode cX3_step 83 = .ok (.aload_n 0, 1) := by decide +kernel
theorem dX3_step_84 : decode cX3_step 84 = .ok (.getfield 9, 3) := by decide +kernel
theorem dX3_step_87 : decode cX3_step 87 = .ok (.aload_n 0, 1) := by decide +kernel
theorem dX3_step_88 : decode cX3_step 88 = .ok (.getfield 19, 3) := by decide +kernel
theorem dX3_step_91 : decode cX3_step 91 = .ok (.iaload, 1) := by decide +kernel
theorem dX3_step_92 : decode cX3_step 92 = .ok (.invokestatic 119, 3) := by decide +kernel
theorem dX3_step_95 : decode cX3_step 95 = .ok (.ifCond .ne 27, 3) := by decide +kernel
theorem dX3_step_98 : decode cX3_step 98 = .ok (.aload_n 0, 1) := by decide +kernel
theorem dX3_step_99 : decode cX3_step 99 = .ok (.aload_n 0, 1) := by decide +kernel
theorem dX3_step_100 : decode cX3_step 100 = .ok (.getfield 9, 3) := by decide +kernel
theorem dX3_step_103 : decode cX3_step 103 = .ok (.aload_n 0, 1) := by decide +kernel
theorem dX3_step_104 : decode cX3_step 104 = .ok (.getfield 19, 3) := by decide +kernel
theorem dX3_step_107 : decode cX3_step 107 = .ok (.iaload, 1) := by decide +kernel
theorem dX3_step_108 : decode cX3_step 108 = .ok (.putfield 25, 3) := by decide +kernel
theorem dX3_step_111 : decode cX3_step 111 = .ok (.aload_n 0, 1) := by decide +kernel
theorem dX3_step_112 : decode cX3_step 112 = .ok (.dup, 1) := by decide +kernel
theorem dX3_step_113 : decode cX3_step 113 = .ok (.getfield 19, 3) := by decide +kernel
theorem dX3_step_116 : decode cX3_step 116 = .ok (.iconst 1, 1) := by decide +kernel
theorem dX3_step_117 : decode cX3_step 117 = .ok (.iadd, 1) := by decide +kernel
theorem dX3_step_118 : decode cX3_step 118 = .ok (.putfield 19, 3) := by decide +kernel
theorem dX3_step_121 : decode cX3_step 121 = .ok (.return_, 1) := by decide +kernel
theorem dX3_step_122 : decode cX3_step 122 = .ok (.aload_n 0, 1) := by decide +kernel
theorem dX3_step_123 : decode cX3_step 123 = .ok (.bipush (-2), 2) := by decide +kernel
theorem dX3_step_125 : decode cX3_step 125 = .ok (.putfield 25, 3) := by decide +kernel
theorem dX3_step_128 : decode cX3_step 128 = .ok (.aload_n 0, 1) := by decide +kernel
theorem dX3_step_129 : decode cX3_step 129 = .ok (.iconst 0, 1) := by decide +kernel
theorem dX3_step_130 : decode cX3_step 130 = .ok (.putfield 28, 3) := by decide +kernel
theorem dX3_step_133 : decode cX3_step 133 = .ok (.aload_n 0, 1) := by decide +kernel
theorem dX3_step_134 : decode cX3_step 134 = .ok (.getfield 19, 3) := by decide +kernel
theorem dX3_step_137 : decode cX3_step 137 = .ok (.aload_n 0, 1) := by decide +kernel
theorem dX3_step_138 : decode cX3_step 138 = .ok (.getfield 15, 3) := by decide +kernel
theorem dX3_step_141 : decode cX3_step 141 = .ok (.if_icmp .ge 83, 3) := by decide +kernel
theorem dX3_step_144 : decode cX3_step 144 = .ok (.aload_n 0, 1) := by decide +kernel
theorem dX3_step_145 : decode cX3_step 145 = .ok (.getfield 19, 3) := by decide +kernel
theorem dX3_step_148 : decode cX3_step 148 = .ok (.sipush 160, 3) := by decide +kernel
theorem dX3_step_151 : decode cX3_step 151 = .ok (.if_icmp .ge 73, 3) := by decide +kernel
theorem dX3_step_154 : decode cX3_step 154 = .ok (.aload_n 0, 1) := by decide +kernel
theorem dX3_step_155 : decode cX3_step 155 = .ok (.getfield 9, 3) := by decide +kernel
theorem dX3_step_158 : decode cX3_step 158 = .ok (.aload_n 0, 1) := by decide +kernel
theorem dX3_step_159 : decode cX3_step 159 = .ok (.getfield 19, 3) := by decide +kernel
theorem dX3_step_162 : decode cX3_step 162 = .ok (.iaload, 1) := by decide +kernel
theorem dX3_step_163 : decode cX3_step 163 = .ok (.invokestatic 119, 3) := by decide +kernel
theorem dX3_step_166 : decode cX3_step 166 = .ok (.ifCond .eq 58, 3) := by decide +kernel
theorem dX3_step_169 : decode cX3_step 169 = .ok (.aload_n 0, 1) := by decide +kernel
theorem dX3_step_170 : decode cX3_step 170 = .ok (.aload_n 0, 1) := by decide +kernel
theorem dX3_step_171 : decode cX3_step 171 = .ok (.getfield 19, 3) := by decide +kernel
theorem dX3_step_174 : decode cX3_step 174 = .ok (.aload_n 0, 1) := by decide +kernel
theorem dX3_step_175 : decode cX3_step 175 = .ok (.getfield 22, 3) := by decide +kernel
theorem dX3_step_178 : decode cX3_step 178 = .ok (.isub, 1) := by decide +kernel
theorem dX3_step_179 : decode cX3_step 179 = .ok (.iconst 2, 1) := by decide +kernel
theorem dX3_step_180 : decode cX3_step 180 = .ok (.if_icmp .ge 26, 3) := by decide +kernel
theorem dX3_step_183 : decode cX3_step 183 = .ok (.bipush 10, 2) := by decide +kernel
theorem dX3_step_185 : decode cX3_step 185 = .ok (.aload_n 0, 1) := by decide +kernel
theorem dX3_step_186 : decode cX3_step 186 = .ok (.getfield 28, 3) := by decide +kernel
theorem dX3_step_189 : decode cX3_step 189 = .ok (.imul, 1) := by decide +kernel
theorem dX3_step_190 : decode cX3_step 190 = .ok (.aload_n 0, 1) := by decide +kernel
theorem dX3_step_191 : decode cX3_step 191 = .ok (.getfield 9, 3) := by decide +kernel
theorem dX3_step_194 : decode cX3_step 194 = .ok (.aload_n 0, 1) := by decide +kernel
theorem dX3_step_195 : decode cX3_step 195 = .ok (.getfield 19, 3) := by decide +kernel
theorem dX3_step_198 : decode cX3_step 198 = .ok (.iaload, 1) := by decide +kernel
theorem dX3_step_199 : decode cX3_step 199 = .ok (.iadd, 1) := by decide +kernel
theorem dX3_step_200 : decode cX3_step 200 = .ok (.bipush 48, 2) := by decide +kernel
theorem dX3_step_202 : decode cX3_step 202 = .ok (.isub, 1) := by decide +kernel
theorem dX3_step_203 : decode cX3_step 203 = .ok (.goto 5, 3) := by decide +kernel
theorem dX3_step_206 : decode cX3_step 206 = .ok (.bipush 100, 2) := by decide +kernel
theorem dX3_step_208 : decode cX3_step 208 = .ok (.putfield 28, 3) := by decide +kernel
theorem dX3_step_211 : decode cX3_step 211 = .ok (.aload_n 0, 1) := by decide +kernel
theorem dX3_step_212 : decode cX3_step 212 = .ok (.dup, 1) := by decide +kernel
theorem dX3_step_213 : decode cX3_step 213 = .ok (.getfield 19, 3) := by decide +kernel
theorem dX3_step_216 : decode cX3_step 216 = .ok (.iconst 1, 1) := by decide +kernel
theorem dX3_step_217 : decode cX3_step 217 = .ok (.iadd, 1) := by decide +kernel
theorem dX3_step_218 : decode cX3_step 218 = .ok (.putfield 19, 3) := by decide +kernel
theorem dX3_step_221 : decode cX3_step 221 = .ok (.goto (-88), 3) := by decide +kernel
theorem dX3_step_224 : decode cX3_step 224 = .ok (.return_, 1) := by decide +kernel
theorem dX3_isDigit_0 : decode cX3_isDigit 0 = .ok (.iload_n 0, 1) := by decide +kernel
theorem dX3_isDigit_1 : decode cX3_isDigit 1 = .ok (.bipush 48, 2) := by decide +kernel
theorem dX3_isDigit_3 : decode cX3_isDigit 3 = .ok (.if_icmp .lt 13, 3) := by decide +kernel
theorem dX3_isDigit_6 : decode cX3_isDigit 6 = .ok (.iload_n 0, 1) := by decide +kernel
theorem dX3_isDigit_7 : decode cX3_isDigit 7 = .ok (.bipush 57, 2) := by decide +kernel
theorem dX3_isDigit_9 : decode cX3_isDigit 9 = .ok (.if_icmp .gt 7, 3) := by decide +kernel
theorem dX3_isDigit_12 : decode cX3_isDigit 12 = .ok (.iconst 1, 1) := by decide +kernel
theorem dX3_isDigit_13 : decode cX3_isDigit 13 = .ok (.goto 4, 3) := by decide +kernel
theorem dX3_isDigit_16 : decode cX3_isDigit 16 = .ok (.iconst 0, 1) := by decide +kernel
theorem dX3_isDigit_17 : decode cX3_isDigit 17 = .ok (.ireturn, 1) := by decide +kernel
theorem dX4_init_0 : decode cX4_init 0 = .ok (.aload_n 0, 1) := by decide +kernel
theorem dX4_init_1 : decode cX4_init 1 = .ok (.invokespecial 1, 3) := by decide +kernel
theorem dX4_init_4 : decode cX4_init 4 = .ok (.aload_n 0, 1) := by decide +kernel
theorem dX4_init_5 : decode cX4_init 5 = .ok (.new 7, 3) := by decide +kernel
theorem dX4_init_8 : decode cX4_init 8 = .ok (.dup, 1) := by decide +kernel
theorem dX4_init_9 : decode cX4_init 9 = .ok (.invokespecial 9, 3) := by decide +kernel
theorem dX4_init_12 : decode cX4_init 12 = .ok (.putfield 10, 3) := by decide +kernel
theorem dX4_init_15 : decode cX4_init 15 = .ok (.aload_n 0, 1) := by decide +kernel
theorem dX4_init_16 : decode cX4_init 16 = .ok (.new 16, 3) := by decide +kernel
theorem dX4_init_19 : decode cX4_init 19 = .ok (.dup, 1) := by decide +kernel
theorem dX4_init_20 : decode cX4_init 20 = .ok (.invokespecial 18, 3) := by decide +kernel
theorem dX4_init_23 : decode cX4_init 23 = .ok (.putfield 19, 3) := by decide +kernel
theorem dX4_init_26 : decode cX4_init 26 = .ok (.aload_n 0, 1) := by decide +kernel
theorem dX4_init_27 : decode cX4_init 27 = .ok (.new 16, 3) := by decide +kernel
theorem dX4_init_30 : decode cX4_init 30 = .ok (.dup, 1) := by decide +kernel
theorem dX4_init_31 : decode cX4_init 31 = .ok (.invokespecial 18, 3) := by decide +kernel
theorem dX4_init_34 : decode cX4_init 34 = .ok (.putfield 23, 3) := by decide +kernel
theorem dX4_init_37 : decode cX4_init 37 = .ok (.aload_n 0, 1) := by decide +kernel
theorem dX4_init_38 : decode cX4_init 38 = .ok (.bipush 10, 2) := by decide +kernel
theorem dX4_init_40 : decode cX4_init 40 = .ok (.anewarray 16, 3) := by decide +kernel
theorem dX4_init_43 : decode cX4_init 43 = .ok (.putfield 26, 3) := by decide +kernel
theorem dX4_init_46 : decode cX4_init 46 = .ok (.aload_n 0, 1) := by decide +kernel
theorem dX4_init_47 : decode cX4_init 47 = .ok (.iconst 0, 1) := by decide +kernel
theorem dX4_init_48 : decode cX4_init 48 = .ok (.putfield 30, 3) := by decide +kernel
theorem dX4_init_51 : decode cX4_init 51 = .ok (.aload_n 0, 1) := by decide +kernel
theorem dX4_init_52 : decode cX4_init 52 = .ok (.iconst 0, 1) := by decide +kernel
theorem dX4_init_53 : decode cX4_init 53 = .ok (.putfield 34, 3) := by decide +kernel
theorem dX4_init_56 : decode cX4_init 56 = .ok (.aload_n 0, 1) := by decide +kernel
theorem dX4_init_57 : decode cX4_init 57 = .ok (.iconst 0, 1) := by decide +kernel
theorem dX4_init_58 : decode cX4_init 58 = .ok (.putfield 37, 3) := by decide +kernel
theorem dX4_init_61 : decode cX4_init 61 = .ok (.iconst 0, 1) := by decide +kernel
theorem dX4_init_62 : decode cX4_init 62 = .ok (.istore_n 1, 1) := by decide +kernel
theorem dX4_init_63 : decode cX4_init 63 = .ok (.iload_n 1, 1) := by decide +kernel
theorem dX4_init_64 : decode cX4_init 64 = .ok (.bipush 10, 2) := by decide +kernel
theorem dX4_init_66 : decode cX4_init 66 = .ok (.if_icmp .ge 22, 3) := by decide +kernel
theorem dX4_init_69 : decode cX4_init 69 = .ok (.aload_n 0, 1) := by decide +kernel
theorem dX4_init_70 : decode cX4_init 70 = .ok (.getfield 26, 3) := by decide +kernel
theorem dX4_init_73 : decode cX4_init 73 = .ok (.iload_n 1, 1) := by decide +kernel
theorem dX4_init_74 : decode cX4_init 74 = .ok (.new 16, 3) := by decide +kernel
theorem dX4_init_77 : decode cX4_init 77 = .ok (.dup, 1) := by decide +kernel
theorem dX4_init_78 : decode cX4_init 78 = .ok (.invokespecial 18, 3) := by decide +kernel
theorem dX4_init_81 : decode cX4_init 81 = .ok (.aastore, 1) := by decide +kernel
theorem dX4_init_82 : decode cX4_init 82 = .ok (.iinc 1 1, 3) := by decide +kernel
theorem dX4_init_85 : decode cX4_init 85 = .ok (.goto (-22), 3) := by decide +kernel
theorem dX4_init_88 : decode cX4_init 88 = .ok (.return_, 1) := by decide +kernel
theorem dX4_write_0 : decode cX4_write 0 = .ok (.iload_n 1, 1) := by decide +kernel
theorem dX4_write_1 : decode cX4_write 1 = .ok (.ifCond .lt 10, 3) := by decide +kernel
theorem dX4_write_4 : decode cX4_write 4 = .ok (.iload_n 1, 1) := by decide +kernel
theorem dX4_write_5 : decode cX4_write 5 = .ok (.sipush 255, 3) := by decide +kernel
theorem dX4_write_8 : decode cX4_write 8 = .ok (.if_icmp .le 6, 3) := by decide +kernel
theorem dX4_write_11 : decode cX4_write 11 = .ok (.ldc 41, 2) := by decide +kernel
theorem dX4_write_13 : decode cX4_write 13 = .ok (.ireturn, 1) := by decide +kernel
theorem dX4_write_14 : decode cX4_write 14 = .ok (.aload_n 0, 1) := by decide +kernel
theorem dX4_write_15 : decode cX4_write 15 = .ok (.getfield 10, 3) := by decide +kernel
theorem dX4_write_18 : decode cX4_write 18 = .ok (.iload_n 1, 1) := by decide +kernel
theorem dX4_write_19 : decode cX4_write 19 = .ok (.invokevirtual 42, 3) := by decide +kernel
theorem dX4_write_22 : decode cX4_write 22 = .ok (.ifCond .eq 13, 3) := by decide +kernel
theorem dX4_write_25 : decode cX4_write 25 = .ok (.aload_n 0, 1) := by decide +kernel
theorem dX4_write_26 : decode cX4_write 26 = .ok (.getfield 10, 3) := by decide +kernel
theorem dX4_write_29 : decode cX4_write 29 = .ok (.getfield 46, 3) := by decide +kernel
theorem dX4_write_32 : decode cX4_write 32 = .ok (.goto 5, 3) := by decide +kernel
theorem dX4_write_35 : decode cX4_write 35 = .ok (.ldc 49, 2) := by decide +kernel
theorem dX4_write_37 : decode cX4_write 37 = .ok (.ireturn, 1) := by decide +kernel
theorem dX4_house_0 : decode cX4_house 0 = .ok (.aload_n 0, 1) := by decide +kernel
theorem dX4_house_1 : decode cX4_house 1 = .ok (.getfield 10, 3) := by decide +kernel
theorem dX4_house_4 : decode cX4_house 4 = .ok (.aload_n 0, 1) := by decide +kernel
theorem dX4_house_5 : decode cX4_house 5 = .ok (.getfield 23, 3) := by decide +kernel
theorem dX4_house_8 : decode cX4_house 8 = .ok (.invokevirtual 50, 3) := by decide +kernel
theorem dX4_house_11 : decode cX4_house 11 = .ok (.istore_n 1, 1) := by decide +kernel
theorem dX4_house_12 : decode cX4_house 12 = .ok (.aload_n 0, 1) := by decide +kernel
theorem dX4_house_13 : decode cX4_house 13 = .ok (.getfield 10, 3) := by decide +kernel
theorem dX4_house_16 : decode cX4_house 16 = .ok (.iconst 0, 1) := by decide +kernel
theorem dX4_house_17 : decode cX4_house 17 = .ok (.putfield 46, 3) := by decide +kernel
theorem dX4_house_20 : decode cX4_house 20 = .ok (.iload_n 1, 1) := by decide +kernel
theorem dX4_house_21 : decode cX4_house 21 = .ok (.ifCond .ne 14, 3) := by decide +kernel
theorem dX4_house_24 : decode cX4_house 24 = .ok (.bipush (-100), 2) := by decide +kernel
theorem dX4_house_26 : decode cX4_house 26 = .ok (.aload_n 0, 1) := by decide +kernel
theorem dX4_house_27 : decode cX4_house 27 = .ok (.getfield 10, 3) := by decide +kernel
theorem dX4_house_30 : decode cX4_house 30 = .ok (.getfield 54, 3) := by decide +kernel
theorem dX4_house_33 : decode cX4_house 33 = .ok (.isub, 1) := by decide +kernel
theorem dX4_house_34 : decode cX4_house 34 = .ok (.ireturn, 1) := by decide +kernel
theorem dX4_house_35 : decode cX4_house 35 = .ok (.aload_n 0, 1) := by decide +kernel
theorem dX4_house_36 : decode cX4_house 36 = .ok (.getfield 23, 3) := by decide +kernel
theorem dX4_house_39 : decode cX4_house 39 = .ok (.invokevirtual 57, 3) := by decide +kernel
theorem dX4_house_42 : decode cX4_house 42 = .ok (.aload_n 0, 1) := by decide +kernel
theorem dX4_house_43 : decode cX4_house 43 = .ok (.getfield 19, 3) := by decide +kernel
theorem dX4_house_46 : decode cX4_house 46 = .ok (.aload_n 0, 1) := by decide +kernel
theorem dX4_house_47 : decode cX4_house 47 = .ok (.getfield 23, 3) := by decide +kernel
theorem dX4_house_50 : decode cX4_house 50 = .ok (.invokevirtual 60, 3) := by decide +kernel
theorem dX4_house_53 : decode cX4_house 53 = .ok (.aload_n 0, 1) := by decide +kernel
theorem dX4_house_54 : decode cX4_house 54 = .ok (.iconst 1, 1) := by decide +kernel
theorem dX4_house_55 : decode cX4_house 55 = .ok (.putfield 37, 3) := by decide +kernel
theorem dX4_house_58 : decode cX4_house 58 = .ok (.aload_n 0, 1) := by decide +kernel
theorem dX4_house_59 : decode cX4_house 59 = .ok (.iconst 0, 1) := by decide +kernel
theorem dX4_house_60 : decode cX4_house 60 = .ok (.putfield 34, 3) := by decide +kernel
theorem dX4_house_63 : decode cX4_house 63 = .ok (.aload_n 0, 1) := by decide +kernel
theorem dX4_house_64 : decode cX4_house 64 = .ok (.getfield 19, 3) := by decide +kernel
theorem dX4_house_67 : decode cX4_house 67 = .ok (.getfield 64, 3) := by decide +kernel
theorem dX4_house_70 : decode cX4_house 70 = .ok (.ireturn, 1) := by decide +kernel
theorem dX4_fault_0 : decode cX4_fault 0 = .ok (.aload_n 0, 1) := by decide +kernel
theorem dX4_fault_1 : decode cX4_fault 1 = .ok (.getfield 10, 3) := by decide +kernel
theorem dX4_fault_4 : decode cX4_fault 4 = .ok (.getfield 67, 3) := by decide +kernel
theorem dX4_fault_7 : decode cX4_fault 7 = .ok (.ireturn, 1) := by decide +kernel
theorem dX4_load_0 : decode cX4_load 0 = .ok (.aload_n 0, 1) := by decide +kernel
theorem dX4_load_1 : decode cX4_load 1 = .ok (.iload_n 1, 1) := by decide +kernel
theorem dX4_load_2 : decode cX4_load 2 = .ok (.iload_n 2, 1) := by decide +kernel
theorem dX4_load_3 : decode cX4_load 3 = .ok (.invokevirtual 70, 3) := by decide +kernel
theorem dX4_load_6 : decode cX4_load 6 = .ok (.ifCond .ne 6, 3) := by decide +kernel
theorem dX4_load_9 : decode cX4_load 9 = .ok (.ldc 74, 2) := by decide +kernel
theorem dX4_load_11 : decode cX4_load 11 = .ok (.ireturn, 1) := by decide +kernel
theorem dX4_load_12 : decode cX4_load 12 = .ok (.iload_n 3, 1) := by decide +kernel
theorem dX4_load_13 : decode cX4_load 13 = .ok (.iconst (-1), 1) := by decide +kernel
theorem dX4_load_14 : decode cX4_load 14 = .ok (.if_icmp .lt 10, 3) := by decide +kernel
theorem dX4_load_17 : decode cX4_load 17 = .ok (.iload_n 3, 1) := by decide +kernel
theorem dX4_load_18 : decode cX4_load 18 = .ok (.sipush 9999, 3) := by decide +kernel
theorem dX4_load_21 : decode cX4_load 21 = .ok (.if_icmp .le 6, 3) := by decide +kernel
theorem dX4_load_24 : decode cX4_load 24 = .ok (.ldc 41, 2) := by decide +kernel
theorem dX4_load_26 : decode cX4_load 26 = .ok (.ireturn, 1) := by decide +kernel
theorem dX4_load_27 : decode cX4_load 27 = .ok (.aload_n 0, 1) := by decide +kernel
theorem dX4_load_28 : decode cX4_load 28 = .ok (.invokevirtual 75, 3) := by decide +kernel
theorem dX4_load_31 : decode cX4_load 31 = .ok (.aload_n 0, 1) := by decide +kernel
theorem dX4_load_32 : decode cX4_load 32 = .ok (.getfield 19, 3) := by decide +kernel
theorem dX4_load_35 : decode cX4_load 35 = .ok (.getfield 78, 3) := by decide +kernel
theorem dX4_load_38 : decode cX4_load 38 = .ok (.iload_n 1, 1) := by decide +kernel
theorem dX4_load_39 : decode cX4_load 39 = .ok (.aaload, 1) := by decide +kernel
theorem dX4_load_40 : decode cX4_load 40 = .ok (.getfield 82, 3) := by decide +kernel
theorem dX4_load_43 : decode cX4_load 43 = .ok (.iload_n 2, 1) := by decide +kernel
theorem dX4_load_44 : decode cX4_load 44 = .ok (.aaload, 1) := by decide +kernel
theorem dX4_load_45 : decode cX4_load 45 = .ok (.astore 4, 2) := by decide +kernel
theorem dX4_load_47 : decode cX4_load 47 = .ok (.aload 4, 2) := by decide +kernel
theorem dX4_load_49 : decode cX4_load 49 = .ok (.getfield 88, 3) := by decide +kernel
theorem dX4_load_52 : decode cX4_load 52 = .ok (.istore 5, 2) := by decide +kernel
theorem dX4_load_54 : decode cX4_load 54 = .ok (.aload 4, 2) := by decide +kernel
theorem dX4_load_56 : decode cX4_load 56 = .ok (.iload_n 3, 1) := by decide +kernel
theorem dX4_load_57 : decode cX4_load 57 = .ok (.putfield 88, 3) := by decide +kernel
theorem dX4_load_60 : decode cX4_load 60 = .ok (.iload 5, 2) := by decide +kernel
theorem dX4_load_62 : decode cX4_load 62 = .ok (.ireturn, 1) := by decide +kernel
theorem dX4_set_0 : decode cX4_set 0 = .ok (.aload_n 0, 1) := by decide +kernel
theorem dX4_set_1 : decode cX4_set 1 = .ok (.iload_n 1, 1) := by decide +kernel
theorem dX4_set_2 : decode cX4_set 2 = .ok (.invokevirtual 93, 3) := by decide +kernel
theorem dX4_set_5 : decode cX4_set 5 = .ok (.ifCond .ne 6, 3) := by decide +kernel
theorem dX4_set_8 : decode cX4_set 8 = .ok (.ldc 74, 2) := by decide +kernel
theorem dX4_set_10 : decode cX4_set 10 = .ok (.ireturn, 1) := by decide +kernel
theorem dX4_set_11 : decode cX4_set 11 = .ok (.iload_n 2, 1) := by decide +kernel
theorem dX4_set_12 : decode cX4_set 12 = .ok (.ifCond .lt 27, 3) := by decide +kernel
theorem dX4_set_15 : decode cX4_set 15 = .ok (.iload_n 2, 1) := by decide +kernel
theorem dX4_set_16 : decode cX4_set 16 = .ok (.bipush 9, 2) := by decide +kernel
theorem dX4_set_18 : decode cX4_set 18 = .ok (.if_icmp .ge 21, 3) := by decide +kernel
theorem dX4_set_21 : decode cX4_set 21 = .ok (.iload_n 3, 1) := by decide +kernel
theorem dX4_set_22 : decode cX4_set 22 = .ok (.getstatic 96, 3) := by decide +kernel
theorem dX4_set_25 : decode cX4_set 25 = .ok (.iload_n 2, 1) := by decide +kernel
theorem dX4_set_26 : decode cX4_set 26 = .ok (.iaload, 1) := by decide +kernel
theorem dX4_set_27 : decode cX4_set 27 = .ok (.if_icmp .lt 12, 3) := by decide +kernel
theorem dX4_set_30 : decode cX4_set 30 = .ok (.iload_n 3, 1) := by decide +kernel
theorem dX4_set_31 : decode cX4_set 31 = .ok (.getstatic 100, 3) := by decide +kernel
theorem dX4_set_34 : decode cX4_set 34 = .ok (.iload_n 2, 1) := by decide +kernel
theorem dX4_set_35 : decode cX4_set 35 = .ok (.iaload, 1) := by decide +kernel
theorem dX4_set_36 : decode cX4_set 36 = .ok (.if_icmp .le 6, 3) := by decide +kernel
theorem dX4_set_39 : decode cX4_set 39 = .ok (.ldc 41, 2) := by decide +kernel
theorem dX4_set_41 : decode cX4_set 41 = .ok (.ireturn, 1) := by decide +kernel
theorem dX4_set_42 : decode cX4_set 42 = .ok (.aload_n 0, 1) := by decide +kernel
theorem dX4_set_43 : decode cX4_set 43 = .ok (.getfield 19, 3) := by decide +kernel
theorem dX4_set_46 : decode cX4_set 46 = .ok (.getfield 78, 3) := by decide +kernel
theorem dX4_set_49 : decode cX4_set 49 = .ok (.iload_n 1, 1) := by decide +kernel
theorem dX4_set_50 : decode cX4_set 50 = .ok (.aaload, 1) := by decide +kernel
theorem dX4_set_51 : decode cX4_set 51 = .ok (.getfield 103, 3) := by decide +kernel
theorem dX4_set_54 : decode cX4_set 54 = .ok (.astore 4, 2) := by decide +kernel
theorem dX4_set_56 : decode cX4_set 56 = .ok (.iload_n 2, 1) := by decide +kernel
theorem dX4_set_57 : decode cX4_set 57 = .ok (.iconst 1, 1) := by decide +kernel
theorem dX4_set_58 : decode cX4_set 58 = .ok (.if_icmp .ne 14, 3) := by decide +kernel
theorem dX4_set_61 : decode cX4_set 61 = .ok (.aload 4, 2) := by decide +kernel
theorem dX4_set_63 : decode cX4_set 63 = .ok (.iconst 0, 1) := by decide +kernel
theorem dX4_set_64 : decode cX4_set 64 = .ok (.iaload, 1) := by decide +kernel
theorem dX4_set_65 : decode cX4_set 65 = .ok (.iload_n 3, 1) := by decide +kernel
theorem dX4_set_66 : decode cX4_set 66 = .ok (.if_icmp .le 6, 3) := by decide +kernel
theorem dX4_set_69 : decode cX4_set 69 = .ok (.ldc 106, 2) := by decide +kernel
theorem dX4_set_71 : decode cX4_set 71 = .ok (.ireturn, 1) := by decide +kernel
theorem dX4_set_72 : decode cX4_set 72 = .ok (.iload_n 2, 1) := by decide +kernel
theorem dX4_set_73 : decode cX4_set 73 = .ok (.ifCond .ne 40, 3) := by decide +kernel
theorem dX4_set_76 : decode cX4_set 76 = .ok (.iload_n 3, 1) := by decide +kernel
theorem dX4_set_77 : decode cX4_set 77 = .ok (.aload 4, 2) := by decide +kernel
theorem dX4_set_79 : decode cX4_set 79 = .ok (.iconst 1, 1) := by decide +kernel
theorem dX4_set_80 : decode cX4_set 80 = .ok (.iaload, 1) := by decide +kernel
theorem dX4_set_81 : decode cX4_set 81 = .ok (.if_icmp .gt 29, 3) := by decide +kernel
theorem dX4_set_84 : decode cX4_set 84 = .ok (.aload_n 0, 1) := by decide +kernel
theorem dX4_set_85 : decode cX4_set 85 = .ok (.getfield 19, 3) := by decide +kernel
theorem dX4_set_88 : decode cX4_set 88 = .ok (.invokevirtual 107, 3) := by decide +kernel
theorem dX4_set_91 : decode cX4_set 91 = .ok (.aload 4, 2) := by decide +kernel
theorem dX4_set_93 : decode cX4_set 93 = .ok (.iconst 0, 1) := by decide +kernel
theorem dX4_set_94 : decode cX4_set 94 = .ok (.iaload, 1) := by decide +kernel
theorem dX4_set_95 : decode cX4_set 95 = .ok (.isub, 1) := by decide +kernel
theorem dX4_set_96 : decode cX4_set 96 = .ok (.iload_n 3, 1) := by decide +kernel
theorem dX4_set_97 : decode cX4_set 97 = .ok (.iadd, 1) := by decide +kernel
theorem dX4_set_98 : decode cX4_set 98 = .ok (.aload_n 0, 1) := by decide +kernel
theorem dX4_set_99 : decode cX4_set 99 = .ok (.getfield 19, 3) := by decide +kernel
theorem dX4_set_102 : decode cX4_set 102 = .ok (.getfield 111, 3) := by decide +kernel
theorem dX4_set_105 : decode cX4_set 105 = .ok (.iconst 0, 1) := by decide +kernel
theorem dX4_set_106 : decode cX4_set 106 = .ok (.iaload, 1) := by decide +kernel
theorem dX4_set_107 : decode cX4_set 107 = .ok (.if_icmp .le 6, 3) := by decide +kernel
theorem dX4_set_110 : decode cX4_set 110 = .ok (.ldc 106, 2) := by decide +kernel
theorem dX4_set_112 : decode cX4_set 112 = .ok (.ireturn, 1) := by decide +kernel
theorem dX4_set_113 : decode cX4_set 113 = .ok (.aload_n 0, 1) := by decide +kernel
theorem dX4_set_114 : decode cX4_set 114 = .ok (.invokevirtual 75, 3) := by decide +kernel
theorem dX4_set_117 : decode cX4_set 117 = .ok (.aload 4, 2) := by decide +kernel
theorem dX4_set_119 : decode cX4_set 119 = .ok (.iload_n 2, 1) := by decide +kernel
theorem dX4_set_120 : decode cX4_set 120 = .ok (.iaload, 1) := by decide +kernel
theorem dX4_set_121 : decode cX4_set 121 = .ok (.istore 5, 2) := by decide +kernel
theorem dX4_set_123 : decode cX4_set 123 = .ok (.aload 4, 2) := by decide +kernel
theorem dX4_set_125 : decode cX4_set 125 = .ok (.iload_n 2, 1) := by decide +kernel
theorem dX4_set_126 : decode cX4_set 126 = .ok (.iload_n 3, 1) := by decide +kernel
theorem dX4_set_127 : decode cX4_set 127 = .ok (.iastore, 1) := by decide +kernel
theorem dX4_set_128 : decode cX4_set 128 = .ok (.iload 5, 2) := by decide +kernel
theorem dX4_set_130 : decode cX4_set 130 = .ok (.ireturn, 1) := by decide +kernel
theorem dX4_round_0 : decode cX4_round 0 = .ok (.aload_n 0, 1) := by decide +kernel
theorem dX4_round_1 : decode cX4_round 1 = .ok (.getfield 37, 3) := by decide +kernel
theorem dX4_round_4 : decode cX4_round 4 = .ok (.ifCond .ne 6, 3) := by decide +kernel
theorem dX4_round_7 : decode cX4_round 7 = .ok (.ldc 74, 2) := by decide +kernel
theorem dX4_round_9 : decode cX4_round 9 = .ok (.ireturn, 1) := by decide +kernel
theorem dX4_round_10 : decode cX4_round 10 = .ok (.aload_n 0, 1) := by decide +kernel
theorem dX4_round_11 : decode cX4_round 11 = .ok (.invokevirtual 75, 3) := by decide +kernel
theorem dX4_round_14 : decode cX4_round 14 = .ok (.aload_n 0, 1) := by decide +kernel
theorem dX4_round_15 : decode cX4_round 15 = .ok (.getfield 19, 3) := by decide +kernel
theorem dX4_round_18 : decode cX4_round 18 = .ok (.invokevirtual 112, 3) := by decide +kernel
theorem dX4_round_21 : decode cX4_round 21 = .ok (.aload_n 0, 1) := by decide +kernel
theorem dX4_round_22 : decode cX4_round 22 = .ok (.getfield 19, 3) := by decide +kernel
theorem dX4_round_25 : decode cX4_round 25 = .ok (.invokevirtual 115, 3) := by decide +kernel
theorem dX4_round_28 : decode cX4_round 28 = .ok (.ireturn, 1) := by decide +kernel
theorem dX4_undo_0 : decode cX4_undo 0 = .ok (.aload_n 0, 1) := by decide +kernel
theorem dX4_undo_1 : decode cX4_undo 1 = .ok (.getfield 37, 3) := by decide +kernel
theorem dX4_undo_4 : decode cX4_undo 4 = .ok (.ifCond .ne 6, 3) := by decide +kernel
theorem dX4_undo_7 : decode cX4_undo 7 = .ok (.ldc 74, 2) := by decide +kernel
theorem dX4_undo_9 : decode cX4_undo 9 = .ok (.ireturn, 1) := by decide +kernel
theorem dX4_undo_10 : decode cX4_undo 10 = .ok (.aload_n 0, 1) := by decide +kernel
theorem dX4_undo_11 : decode cX4_undo 11 = .ok (.getfield 34, 3) := by decide +kernel
theorem dX4_undo_14 : decode cX4_undo 14 = .ok (.ifCond .ne 6, 3) := by decide +kernel
theorem dX4_undo_17 : decode cX4_undo 17 = .ok (.ldc 106, 2) := by decide +kernel
theorem dX4_undo_19 : decode cX4_undo 19 = .ok (.ireturn, 1) := by decide +kernel
theorem dX4_undo_20 : decode cX4_undo 20 = .ok (.aload_n 0, 1) := by decide +kernel
theorem dX4_undo_21 : decode cX4_undo 21 = .ok (.aload_n 0, 1) := by decide +kernel
theorem dX4_undo_22 : decode cX4_undo 22 = .ok (.getfield 30, 3) := by decide +kernel
theorem dX4_undo_25 : decode cX4_undo 25 = .ok (.ifCond .ne 8, 3) := by decide +kernel
theorem dX4_undo_28 : decode cX4_undo 28 = .ok (.bipush 9, 2) := by decide +kernel
theorem dX4_undo_30 : decode cX4_undo 30 = .ok (.goto 9, 3) := by decide +kernel
theorem dX4_undo_33 : decode cX4_undo 33 = .ok (.aload_n 0, 1) := by decide +kernel
theorem dX4_undo_34 : decode cX4_undo 34 = .ok (.getfield 30, 3) := by decide +kernel
theorem dX4_undo_37 : decode cX4_undo 37 = .ok (.iconst 1, 1) := by decide +kernel
theorem dX4_undo_38 : decode cX4_undo 38 = .ok (.isub, 1) := by decide +kernel
theorem dX4_undo_39 : decode cX4_undo 39 = .ok (.putfield 30, 3) := by decide +kernel
theorem dX4_undo_42 : decode cX4_undo 42 = .ok (.aload_n 0, 1) := by decide +kernel
theorem dX4_undo_43 : decode cX4_undo 43 = .ok (.getfield 19, 3) := by decide +kernel
theorem dX4_undo_46 : decode cX4_undo 46 = .ok (.aload_n 0, 1) := by decide +kernel
theorem dX4_undo_47 : decode cX4_undo 47 = .ok (.getfield 26, 3) := by decide +kernel
theorem dX4_undo_50 : decode cX4_undo 50 = .ok (.aload_n 0, 1) := by decide +kernel
theorem dX4_undo_51 : decode cX4_undo 51 = .ok (.getfield 30, 3) := by decide +kernel
theorem dX4_undo_54 : decode cX4_undo 54 = .ok (.aaload, 1) := by decide +kernel
theorem dX4_undo_55 : decode cX4_undo 55 = .ok (.invokevirtual 60, 3) := by decide +kernel
theorem dX4_undo_58 : decode cX4_undo 58 = .ok (.aload_n 0, 1) := by decide +kernel
theorem dX4_undo_59 : decode cX4_undo 59 = .ok (.dup, 1) := by decide +kernel
theorem dX4_undo_60 : decode cX4_undo 60 = .ok (.getfield 34, 3) := by decide +kernel
theorem dX4_undo_63 : decode cX4_undo 63 = .ok (.iconst 1, 1) := by decide +kernel
theorem dX4_undo_64 : decode cX4_undo 64 = .ok (.isub, 1) := by decide +kernel
theorem dX4_undo_65 : decode cX4_undo 65 = .ok (.putfield 34, 3) := by decide +kernel
theorem dX4_undo_68 : decode cX4_undo 68 = .ok (.aload_n 0, 1) := by decide +kernel
theorem dX4_undo_69 : decode cX4_undo 69 = .ok (.getfield 34, 3) := by decide +kernel
theorem dX4_undo_72 : decode cX4_undo 72 = .ok (.ireturn, 1) := by decide +kernel
theorem dX4_service_0 : decode cX4_service 0 = .ok (.aload_n 0, 1) := by decide +kernel
theorem dX4_service_1 : decode cX4_service 1 = .ok (.iload_n 1, 1) := by decide +kernel
theorem dX4_service_2 : decode cX4_service 2 = .ok (.invokevirtual 93, 3) := by decide +kernel
theorem dX4_service_5 : decode cX4_service 5 = .ok (.ifCond .ne 6, 3) := by decide +kernel
theorem dX4_service_8 : decode cX4_service 8 = .ok (.ldc 74, 2) := by decide +kernel
theorem dX4_service_10 : decode cX4_service 10 = .ok (.ireturn, 1) := by decide +kernel
theorem dX4_service_11 : decode cX4_service 11 = .ok (.aload_n 0, 1) := by decide +kernel
theorem dX4_service_12 : decode cX4_service 12 = .ok (.getfield 19, 3) := by decide +kernel
theorem dX4_service_15 : decode cX4_service 15 = .ok (.getfield 78, 3) := by decide +kernel
theorem dX4_service_18 : decode cX4_service 18 = .ok (.iload_n 1, 1) := by decide +kernel
theorem dX4_service_19 : decode cX4_service 19 = .ok (.aaload, 1) := by decide +kernel
theorem dX4_service_20 : decode cX4_service 20 = .ok (.astore_n 3, 1) := by decide +kernel
theorem dX4_service_21 : decode cX4_service 21 = .ok (.iload_n 2, 1) := by decide +kernel
theorem dX4_service_22 : decode cX4_service 22 = .ok (.ifCond .lt 16, 3) := by decide +kernel
theorem dX4_service_25 : decode cX4_service 25 = .ok (.iload_n 2, 1) := by decide +kernel
theorem dX4_service_26 : decode cX4_service 26 = .ok (.bipush 9, 2) := by decide +kernel
theorem dX4_service_28 : decode cX4_service 28 = .ok (.if_icmp .ge 10, 3) := by decide +kernel
theorem dX4_service_31 : decode cX4_service 31 = .ok (.aload_n 3, 1) := by decide +kernel
theorem dX4_service_32 : decode cX4_service 32 = .ok (.getfield 103, 3) := by decide +kernel
theorem dX4_service_35 : decode cX4_service 35 = .ok (.iload_n 2, 1) := by decide +kernel
theorem dX4_service_36 : decode cX4_service 36 = .ok (.iaload, 1) := by decide +kernel
theorem dX4_service_37 : decode cX4_service 37 = .ok (.ireturn, 1) := by decide +kernel
theorem dX4_service_38 : decode cX4_service 38 = .ok (.iload_n 2, 1) := by decide +kernel
theorem dX4_service_39 : decode cX4_service 39 = .ok (.tableswitch 83 9 15 #[41, 46, 51, 56, 68, 73, 78], 41) := by decide +kernel
theorem dX4_service_80 : decode cX4_service 80 = .ok (.aload_n 3, 1) := by decide +kernel
theorem dX4_service_81 : decode cX4_service 81 = .ok (.getfield 118, 3) := by decide +kernel
theorem dX4_service_84 : decode cX4_service 84 = .ok (.ireturn, 1) := by decide +kernel
theorem dX4_service_85 : decode cX4_service 85 = .ok (.aload_n 3, 1) := by decide +kernel
theorem dX4_service_86 : decode cX4_service 86 = .ok (.getfield 121, 3) := by decide +kernel
theorem dX4_service_89 : decode cX4_service 89 = .ok (.ireturn, 1) := by decide +kernel
theorem dX4_service_90 : decode cX4_service 90 = .ok (.aload_n 3, 1) := by decide +kernel
theorem dX4_service_91 : decode cX4_service 91 = .ok (.getfield 124, 3) := by decide +kernel
theorem dX4_service_94 : decode cX4_service 94 = .ok (.ireturn, 1) := by decide +kernel
theorem dX4_service_95 : decode cX4_service 95 = .ok (.aload_n 3, 1) := by decide +kernel
theorem dX4_service_96 : decode cX4_service 96 = .ok (.aload_n 0, 1) := by decide +kernel
theorem dX4_service_97 : decode cX4_service 97 = .ok (.getfield 19, 3) := by decide +kernel
theorem dX4_service_100 : decode cX4_service 100 = .ok (.getfield 127, 3) := by decide +kernel
theorem dX4_service_103 : decode cX4_service 103 = .ok (.invokevirtual 130, 3) := by decide +kernel
theorem dX4_service_106 : decode cX4_service 106 = .ok (.ireturn, 1) := by decide +kernel
theorem dX4_service_107 : decode cX4_service 107 = .ok (.aload_n 3, 1) := by decide +kernel
theorem dX4_service_108 : decode cX4_service 108 = .ok (.getfield 134, 3) := by decide +kernel
theorem dX4_service_111 : decode cX4_service 111 = .ok (.ireturn, 1) := by decide +kernel
theorem dX4_service_112 : decode cX4_service 112 = .ok (.aload_n 3, 1) := by decide +kernel
theorem dX4_service_113 : decode cX4_service 113 = .ok (.getfield 137, 3) := by decide +kernel
theorem dX4_service_116 : decode cX4_service 116 = .ok (.ireturn, 1) := by decide +kernel
theorem dX4_service_117 : decode cX4_service 117 = .ok (.aload_n 3, 1) := by decide +kernel
theorem dX4_service_118 : decode cX4_service 118 = .ok (.getfield 140, 3) := by decide +kernel
theorem dX4_service_121 : decode cX4_service 121 = .ok (.ireturn, 1) := by decide +kernel
theorem dX4_service_122 : decode cX4_service 122 = .ok (.ldc 41, 2) := by decide +kernel
theorem dX4_service_124 : decode cX4_service 124 = .ok (.ireturn, 1) := by decide +kernel
theorem dX4_measure_0 : decode cX4_measure 0 = .ok (.aload_n 0, 1) := by decide +kernel
theorem dX4_measure_1 : decode cX4_measure 1 = .ok (.iload_n 1, 1) := by decide +kernel
theorem dX4_measure_2 : decode cX4_measure 2 = .ok (.iload_n 2, 1) := by decide +kernel
theorem dX4_measure_3 : decode cX4_measure 3 = .ok (.invokevirtual 70, 3) := by decide +kernel
theorem dX4_measure_6 : decode cX4_measure 6 = .ok (.ifCond .ne 6, 3) := by decide +kernel
theorem dX4_measure_9 : decode cX4_measure 9 = .ok (.ldc 74, 2) := by decide +kernel
theorem dX4_measure_11 : decode cX4_measure 11 = .ok (.ireturn, 1) := by decide +kernel
theorem dX4_measure_12 : decode cX4_measure 12 = .ok (.aload_n 0, 1) := by decide +kernel
theorem dX4_measure_13 : decode cX4_measure 13 = .ok (.getfield 19, 3) := by decide +kernel
theorem dX4_measure_16 : decode cX4_measure 16 = .ok (.getfield 78, 3) := by decide +kernel
theorem dX4_measure_19 : decode cX4_measure 19 = .ok (.iload_n 1, 1) := by decide +kernel
theorem dX4_measure_20 : decode cX4_measure 20 = .ok (.aaload, 1) := by decide +kernel
theorem dX4_measure_21 : decode cX4_measure 21 = .ok (.getfield 82, 3) := by decide +kernel
theorem dX4_measure_24 : decode cX4_measure 24 = .ok (.iload_n 2, 1) := by decide +kernel
theorem dX4_measure_25 : decode cX4_measure 25 = .ok (.aaload, 1) := by decide +kernel
theorem dX4_measure_26 : decode cX4_measure 26 = .ok (.astore 4, 2) := by decide +kernel
theorem dX4_measure_28 : decode cX4_measure 28 = .ok (.aload_n 0, 1) := by decide +kernel
theorem dX4_measure_29 : decode cX4_measure 29 = .ok (.getfield 19, 3) := by decide +kernel
theorem dX4_measure_32 : decode cX4_measure 32 = .ok (.invokevirtual 143, 3) := by decide +kernel
theorem dX4_measure_35 : decode cX4_measure 35 = .ok (.istore 5, 2) := by decide +kernel
theorem dX4_measure_37 : decode cX4_measure 37 = .ok (.iload_n 3, 1) := by decide +kernel
theorem dX4_measure_38 : decode cX4_measure 38 = .ok (.bipush 10, 2) := by decide +kernel
theorem dX4_measure_40 : decode cX4_measure 40 = .ok (.if_icmp .lt 36, 3) := by decide +kernel
theorem dX4_measure_43 : decode cX4_measure 43 = .ok (.iload_n 3, 1) := by decide +kernel
theorem dX4_measure_44 : decode cX4_measure 44 = .ok (.bipush 10, 2) := by decide +kernel
theorem dX4_measure_46 : decode cX4_measure 46 = .ok (.iload 5, 2) := by decide +kernel
theorem dX4_measure_48 : decode cX4_measure 48 = .ok (.iadd, 1) := by decide +kernel
theorem dX4_measure_49 : decode cX4_measure 49 = .ok (.if_icmp .ge 27, 3) := by decide +kernel
theorem dX4_measure_52 : decode cX4_measure 52 = .ok (.aload 4, 2) := by decide +kernel
theorem dX4_measure_54 : decode cX4_measure 54 = .ok (.getfield 146, 3) := by decide +kernel
theorem dX4_measure_57 : decode cX4_measure 57 = .ok (.aload_n 0, 1) := by decide +kernel
theorem dX4_measure_58 : decode cX4_measure 58 = .ok (.getfield 19, 3) := by decide +kernel
theorem dX4_measure_61 : decode cX4_measure 61 = .ok (.getfield 127, 3) := by decide +kernel
theorem dX4_measure_64 : decode cX4_measure 64 = .ok (.iconst 1, 1) := by decide +kernel
theorem dX4_measure_65 : decode cX4_measure 65 = .ok (.isub, 1) := by decide +kernel
theorem dX4_measure_66 : decode cX4_measure 66 = .ok (.iload_n 3, 1) := by decide +kernel
theorem dX4_measure_67 : decode cX4_measure 67 = .ok (.bipush 10, 2) := by decide +kernel
theorem dX4_measure_69 : decode cX4_measure 69 = .ok (.isub, 1) := by decide +kernel
theorem dX4_measure_70 : decode cX4_measure 70 = .ok (.isub, 1) := by decide +kernel
theorem dX4_measure_71 : decode cX4_measure 71 = .ok (.bipush 31, 2) := by decide +kernel
theorem dX4_measure_73 : decode cX4_measure 73 = .ok (.iand, 1) := by decide +kernel
theorem dX4_measure_74 : decode cX4_measure 74 = .ok (.iaload, 1) := by decide +kernel
theorem dX4_measure_75 : decode cX4_measure 75 = .ok (.ireturn, 1) := by decide +kernel
theorem dX4_measure_76 : decode cX4_measure 76 = .ok (.iload_n 3, 1) := by decide +kernel
theorem dX4_measure_77 : decode cX4_measure 77 = .ok (.tableswitch 75 0 4 #[35, 41, 47, 53, 72], 35) := by decide +kernel
theorem dX4_measure_112 : decode cX4_measure 112 = .ok (.aload 4, 2) := by decide +kernel
theorem dX4_measure_114 : decode cX4_measure 114 = .ok (.getfield 149, 3) := by decide +kernel
theorem dX4_measure_117 : decode cX4_measure 117 = .ok (.ireturn, 1) := by decide +kernel
theorem dX4_measure_118 : decode cX4_measure 118 = .ok (.aload 4, 2) := by decide +kernel
theorem dX4_measure_120 : decode cX4_measure 120 = .ok (.getfield 152, 3) := by decide +kernel
theorem dX4_measure_123 : decode cX4_measure 123 = .ok (.ireturn, 1) := by decide +kernel
theorem dX4_measure_124 : decode cX4_measure 124 = .ok (.aload 4, 2) := by decide +kernel
theorem dX4_measure_126 : decode cX4_measure 126 = .ok (.getfield 88, 3) := by decide +kernel
theorem dX4_measure_129 : decode cX4_measure 129 = .ok (.ireturn, 1) := by decide +kernel
theorem dX4_measure_130 : decode cX4_measure 130 = .ok (.aload_n 0, 1) := by decide +kernel
theorem dX4_measure_131 : decode cX4_measure 131 = .ok (.getfield 19, 3) := by decide +kernel
theorem dX4_measure_134 : decode cX4_measure 134 = .ok (.aload_n 0, 1) := by decide +kernel
theorem dX4_measure_135 : decode cX4_measure 135 = .ok (.getfield 19, 3) := by decide +kernel
theorem dX4_measure_138 : decode cX4_measure 138 = .ok (.getfield 78, 3) := by decide +kernel
theorem dX4_measure_141 : decode cX4_measure 141 = .ok (.iload_n 1, 1) := by decide +kernel
theorem dX4_measure_142 : decode cX4_measure 142 = .ok (.aaload, 1) := by decide +kernel
theorem dX4_measure_143 : decode cX4_measure 143 = .ok (.aload 4, 2) := by decide +kernel
theorem dX4_measure_145 : decode cX4_measure 145 = .ok (.invokevirtual 155, 3) := by decide +kernel
theorem dX4_measure_148 : decode cX4_measure 148 = .ok (.ireturn, 1) := by decide +kernel
theorem dX4_measure_149 : decode cX4_measure 149 = .ok (.iload 5, 2) := by decide +kernel
theorem dX4_measure_151 : decode cX4_measure 151 = .ok (.ireturn, 1) := by decide +kernel
theorem dX4_measure_152 : decode cX4_measure 152 = .ok (.ldc 41, 2) := by decide +kernel
theorem dX4_measure_154 : decode cX4_measure 154 = .ok (.ireturn, 1) := by decide +kernel
theorem dX4_starting_0 : decode cX4_starting 0 = .ok (.aload_n 0, 1) := by decide +kernel
theorem dX4_starting_1 : decode cX4_starting 1 = .ok (.iload_n 1, 1) := by decide +kernel
theorem dX4_starting_2 : decode cX4_starting 2 = .ok (.invokevirtual 93, 3) := by decide +kernel
theorem dX4_starting_5 : decode cX4_starting 5 = .ok (.ifCond .ne 6, 3) := by decide +kernel
theorem dX4_starting_8 : decode cX4_starting 8 = .ok (.ldc 74, 2) := by decide +kernel
theorem dX4_starting_10 : decode cX4_starting 10 = .ok (.ireturn, 1) := by decide +kernel
theorem dX4_starting_11 : decode cX4_starting 11 = .ok (.iload_n 2, 1) := by decide +kernel
theorem dX4_starting_12 : decode cX4_starting 12 = .ok (.aload_n 0, 1) := by decide +kernel
theorem dX4_starting_13 : decode cX4_starting 13 = .ok (.getfield 19, 3) := by decide +kernel
theorem dX4_starting_16 : decode cX4_starting 16 = .ok (.getfield 127, 3) := by decide +kernel
theorem dX4_starting_19 : decode cX4_starting 19 = .ok (.if_icmp .lt 17, 3) := by decide +kernel
theorem dX4_starting_22 : decode cX4_starting 22 = .ok (.iload_n 2, 1) := by decide +kernel
theorem dX4_starting_23 : decode cX4_starting 23 = .ok (.aload_n 0, 1) := by decide +kernel
theorem dX4_starting_24 : decode cX4_starting 24 = .ok (.getfield 19, 3) := by decide +kernel
theorem dX4_starting_27 : decode cX4_starting 27 = .ok (.getfield 127, 3) := by decide +kernel
theorem dX4_starting_30 : decode cX4_starting 30 = .ok (.bipush 6, 2) := by decide +kernel
theorem dX4_starting_32 : decode cX4_starting 32 = .ok (.iadd, 1) := by decide +kernel
theorem dX4_starting_33 : decode cX4_starting 33 = .ok (.if_icmp .le 6, 3) := by decide +kernel
theorem dX4_starting_36 : decode cX4_starting 36 = .ok (.ldc 41, 2) := by decide +kernel
theorem dX4_starting_38 : decode cX4_starting 38 = .ok (.ireturn, 1) := by decide +kernel
theorem dX4_starting_39 : decode cX4_starting 39 = .ok (.aload_n 0, 1) := by decide +kernel
theorem dX4_starting_40 : decode cX4_starting 40 = .ok (.getfield 19, 3) := by decide +kernel
theorem dX4_starting_43 : decode cX4_starting 43 = .ok (.getfield 78, 3) := by decide +kernel
theorem dX4_starting_46 : decode cX4_starting 46 = .ok (.iload_n 1, 1) := by decide +kernel
theorem dX4_starting_47 : decode cX4_starting 47 = .ok (.aaload, 1) := by decide +kernel
theorem dX4_starting_48 : decode cX4_starting 48 = .ok (.getfield 159, 3) := by decide +kernel
theorem dX4_starting_51 : decode cX4_starting 51 = .ok (.iload_n 2, 1) := by decide +kernel
theorem dX4_starting_52 : decode cX4_starting 52 = .ok (.bipush 7, 2) := by decide +kernel
theorem dX4_starting_54 : decode cX4_starting 54 = .ok (.iand, 1) := by decide +kernel
theorem dX4_starting_55 : decode cX4_starting 55 = .ok (.iaload, 1) := by decide +kernel
theorem dX4_starting_56 : decode cX4_starting 56 = .ok (.ireturn, 1) := by decide +kernel
theorem dX4_count_0 : decode cX4_count 0 = .ok (.iload_n 1, 1) := by decide +kernel
theorem dX4_count_1 : decode cX4_count 1 = .ok (.bipush 10, 2) := by decide +kernel
theorem dX4_count_3 : decode cX4_count 3 = .ok (.if_icmp .ne 11, 3) := by decide +kernel
theorem dX4_count_6 : decode cX4_count 6 = .ok (.aload_n 0, 1) := by decide +kernel
theorem dX4_count_7 : decode cX4_count 7 = .ok (.getfield 10, 3) := by decide +kernel
theorem dX4_count_10 : decode cX4_count 10 = .ok (.getfield 46, 3) := by decide +kernel
theorem dX4_count_13 : decode cX4_count 13 = .ok (.ireturn, 1) := by decide +kernel
theorem dX4_count_14 : decode cX4_count 14 = .ok (.aload_n 0, 1) := by decide +kernel
theorem dX4_count_15 : decode cX4_count 15 = .ok (.getfield 37, 3) := by decide +kernel
theorem dX4_count_18 : decode cX4_count 18 = .ok (.ifCond .ne 6, 3) := by decide +kernel
theorem dX4_count_21 : decode cX4_count 21 = .ok (.ldc 74, 2) := by decide +kernel
theorem dX4_count_23 : decode cX4_count 23 = .ok (.ireturn, 1) := by decide +kernel
theorem dX4_count_24 : decode cX4_count 24 = .ok (.iload_n 1, 1) := by decide +kernel
theorem dX4_count_25 : decode cX4_count 25 = .ok (.iconst 4, 1) := by decide +kernel
theorem dX4_count_26 : decode cX4_count 26 = .ok (.if_icmp .lt 21, 3) := by decide +kernel
theorem dX4_count_29 : decode cX4_count 29 = .ok (.iload_n 1, 1) := by decide +kernel
theorem dX4_count_30 : decode cX4_count 30 = .ok (.bipush 9, 2) := by decide +kernel
theorem dX4_count_32 : decode cX4_count 32 = .ok (.if_icmp .ge 15, 3) := by decide +kernel
theorem dX4_count_35 : decode cX4_count 35 = .ok (.aload_n 0, 1) := by decide +kernel
theorem dX4_count_36 : decode cX4_count 36 = .ok (.getfield 19, 3) := by decide +kernel
theorem dX4_count_39 : decode cX4_count 39 = .ok (.getfield 111, 3) := by decide +kernel
theorem dX4_count_42 : decode cX4_count 42 = .ok (.iload_n 1, 1) := by decide +kernel
theorem dX4_count_43 : decode cX4_count 43 = .ok (.iconst 4, 1) := by decide +kernel
theorem dX4_count_44 : decode cX4_count 44 = .ok (.isub, 1) := by decide +kernel
theorem dX4_count_45 : decode cX4_count 45 = .ok (.iaload, 1) := by decide +kernel
theorem dX4_count_46 : decode cX4_count 46 = .ok (.ireturn, 1) := by decide +kernel
theorem dX4_count_47 : decode cX4_count 47 = .ok (.iload_n 1, 1) := by decide +kernel
theorem dX4_count_48 : decode cX4_count 48 = .ok (.tableswitch 93 0 9 #[56, 64, 72, 80, 93, 93, 93, 93, 93, 88], 56) := by decide +kernel
theorem dX4_count_104 : decode cX4_count 104 = .ok (.aload_n 0, 1) := by decide +kernel
theorem dX4_count_105 : decode cX4_count 105 = .ok (.getfield 19, 3) := by decide +kernel
theorem dX4_count_108 : decode cX4_count 108 = .ok (.getfield 127, 3) := by decide +kernel
theorem dX4_count_111 : decode cX4_count 111 = .ok (.ireturn, 1) := by decide +kernel
theorem dX4_count_112 : decode cX4_count 112 = .ok (.aload_n 0, 1) := by decide +kernel
theorem dX4_count_113 : decode cX4_count 113 = .ok (.getfield 19, 3) := by decide +kernel
theorem dX4_count_116 : decode cX4_count 116 = .ok (.getfield 64, 3) := by decide +kernel
theorem dX4_count_119 : decode cX4_count 119 = .ok (.ireturn, 1) := by decide +kernel
theorem dX4_count_120 : decode cX4_count 120 = .ok (.aload_n 0, 1) := by decide +kernel
theorem dX4_count_121 : decode cX4_count 121 = .ok (.getfield 19, 3) := by decide +kernel
theorem dX4_count_124 : decode cX4_count 124 = .ok (.invokevirtual 115, 3) := by decide +kernel
theorem dX4_count_127 : decode cX4_count 127 = .ok (.ireturn, 1) := by decide +kernel
theorem dX4_count_128 : decode cX4_count 128 = .ok (.aload_n 0, 1) := by decide +kernel
theorem dX4_count_129 : decode cX4_count 129 = .ok (.getfield 19, 3) := by decide +kernel
theorem dX4_count_132 : decode cX4_count 132 = .ok (.getfield 162, 3) := by decide +kernel
theorem dX4_count_135 : decode cX4_count 135 = .ok (.ireturn, 1) := by decide +kernel
theorem dX4_count_136 : decode cX4_count 136 = .ok (.aload_n 0, 1) := by decide +kernel
theorem dX4_count_137 : decode cX4_count 137 = .ok (.getfield 34, 3) := by decide +kernel
theorem dX4_count_140 : decode cX4_count 140 = .ok (.ireturn, 1) := by decide +kernel
theorem dX4_count_141 : decode cX4_count 141 = .ok (.ldc 41, 2) := by decide +kernel
theorem dX4_count_143 : decode cX4_count 143 = .ok (.ireturn, 1) := by decide +kernel
theorem dX4_would_0 : decode cX4_would 0 = .ok (.aload_n 0, 1) := by decide +kernel
theorem dX4_would_1 : decode cX4_would 1 = .ok (.iload_n 1, 1) := by decide +kernel
theorem dX4_would_2 : decode cX4_would 2 = .ok (.invokevirtual 93, 3) := by decide +kernel
theorem dX4_would_5 : decode cX4_would 5 = .ok (.ifCond .ne 6, 3) := by decide +kernel
theorem dX4_would_8 : decode cX4_would 8 = .ok (.ldc 74, 2) := by decide +kernel
theorem dX4_would_10 : decode cX4_would 10 = .ok (.ireturn, 1) := by decide +kernel
theorem dX4_would_11 : decode cX4_would 11 = .ok (.iload_n 2, 1) := by decide +kernel
theorem dX4_would_12 : decode cX4_would 12 = .ok (.ifCond .lt 8, 3) := by decide +kernel
theorem dX4_would_15 : decode cX4_would 15 = .ok (.iload_n 2, 1) := by decide +kernel
theorem dX4_would_16 : decode cX4_would 16 = .ok (.iconst 5, 1) := by decide +kernel
theorem dX4_would_17 : decode cX4_would 17 = .ok (.if_icmp .le 6, 3) := by decide +kernel
theorem dX4_would_20 : decode cX4_would 20 = .ok (.ldc 41, 2) := by decide +kernel
theorem dX4_would_22 : decode cX4_would 22 = .ok (.ireturn, 1) := by decide +kernel
theorem dX4_would_23 : decode cX4_would 23 = .ok (.aload_n 0, 1) := by decide +kernel
theorem dX4_would_24 : decode cX4_would 24 = .ok (.iload_n 1, 1) := by decide +kernel
theorem dX4_would_25 : decode cX4_would 25 = .ok (.invokevirtual 165, 3) := by decide +kernel
theorem dX4_would_28 : decode cX4_would 28 = .ok (.astore_n 3, 1) := by decide +kernel
theorem dX4_would_29 : decode cX4_would 29 = .ok (.iload_n 2, 1) := by decide +kernel
theorem dX4_would_30 : decode cX4_would 30 = .ok (.tableswitch 59 0 4 #[34, 39, 44, 49, 54], 34) := by decide +kernel
theorem dX4_would_64 : decode cX4_would 64 = .ok (.aload_n 3, 1) := by decide +kernel
theorem dX4_would_65 : decode cX4_would 65 = .ok (.getfield 169, 3) := by decide +kernel
theorem dX4_would_68 : decode cX4_would 68 = .ok (.ireturn, 1) := by decide +kernel
theorem dX4_would_69 : decode cX4_would 69 = .ok (.aload_n 3, 1) := by decide +kernel
theorem dX4_would_70 : decode cX4_would 70 = .ok (.getfield 172, 3) := by decide +kernel
theorem dX4_would_73 : decode cX4_would 73 = .ok (.ireturn, 1) := by decide +kernel
theorem dX4_would_74 : decode cX4_would 74 = .ok (.aload_n 3, 1) := by decide +kernel
theorem dX4_would_75 : decode cX4_would 75 = .ok (.getfield 175, 3) := by decide +kernel
theorem dX4_would_78 : decode cX4_would 78 = .ok (.ireturn, 1) := by decide +kernel
theorem dX4_would_79 : decode cX4_would 79 = .ok (.aload_n 3, 1) := by decide +kernel
theorem dX4_would_80 : decode cX4_would 80 = .ok (.getfield 178, 3) := by decide +kernel
theorem dX4_would_83 : decode cX4_would 83 = .ok (.ireturn, 1) := by decide +kernel
theorem dX4_would_84 : decode cX4_would 84 = .ok (.aload_n 3, 1) := by decide +kernel
theorem dX4_would_85 : decode cX4_would 85 = .ok (.getfield 121, 3) := by decide +kernel
theorem dX4_would_88 : decode cX4_would 88 = .ok (.ireturn, 1) := by decide +kernel
theorem dX4_would_89 : decode cX4_would 89 = .ok (.aload_n 3, 1) := by decide +kernel
theorem dX4_would_90 : decode cX4_would 90 = .ok (.getfield 181, 3) := by decide +kernel
theorem dX4_would_93 : decode cX4_would 93 = .ok (.ireturn, 1) := by decide +kernel
theorem dX4_why_0 : decode cX4_why 0 = .ok (.aload_n 0, 1) := by decide +kernel
theorem dX4_why_1 : decode cX4_why 1 = .ok (.iload_n 1, 1) := by decide +kernel
theorem dX4_why_2 : decode cX4_why 2 = .ok (.invokevirtual 93, 3) := by decide +kernel
theorem dX4_why_5 : decode cX4_why 5 = .ok (.ifCond .ne 6, 3) := by decide +kernel
theorem dX4_why_8 : decode cX4_why 8 = .ok (.ldc 74, 2) := by decide +kernel
theorem dX4_why_10 : decode cX4_why 10 = .ok (.ireturn, 1) := by decide +kernel
theorem dX4_why_11 : decode cX4_why 11 = .ok (.iload_n 2, 1) := by decide +kernel
theorem dX4_why_12 : decode cX4_why 12 = .ok (.ifCond .ge 6, 3) := by decide +kernel
theorem dX4_why_15 : decode cX4_why 15 = .ok (.ldc 41, 2) := by decide +kernel
theorem dX4_why_17 : decode cX4_why 17 = .ok (.ireturn, 1) := by decide +kernel
theorem dX4_why_18 : decode cX4_why 18 = .ok (.aload_n 0, 1) := by decide +kernel
theorem dX4_why_19 : decode cX4_why 19 = .ok (.iload_n 1, 1) := by decide +kernel
theorem dX4_why_20 : decode cX4_why 20 = .ok (.invokevirtual 165, 3) := by decide +kernel
theorem dX4_why_23 : decode cX4_why 23 = .ok (.astore_n 3, 1) := by decide +kernel
theorem dX4_why_24 : decode cX4_why 24 = .ok (.iload_n 2, 1) := by decide +kernel
theorem dX4_why_25 : decode cX4_why 25 = .ok (.istore 4, 2) := by decide +kernel
theorem dX4_why_27 : decode cX4_why 27 = .ok (.iconst 4, 1) := by decide +kernel
theorem dX4_why_28 : decode cX4_why 28 = .ok (.istore 5, 2) := by decide +kernel
theorem dX4_why_30 : decode cX4_why 30 = .ok (.iload 5, 2) := by decide +kernel
theorem dX4_why_32 : decode cX4_why 32 = .ok (.iconst 1, 1) := by decide +kernel
theorem dX4_why_33 : decode cX4_why 33 = .ok (.if_icmp .lt 29, 3) := by decide +kernel
theorem dX4_why_36 : decode cX4_why 36 = .ok (.aload_n 3, 1) := by decide +kernel
theorem dX4_why_37 : decode cX4_why 37 = .ok (.iload 5, 2) := by decide +kernel
theorem dX4_why_39 : decode cX4_why 39 = .ok (.invokevirtual 182, 3) := by decide +kernel
theorem dX4_why_42 : decode cX4_why 42 = .ok (.ifCond .eq 14, 3) := by decide +kernel
theorem dX4_why_45 : decode cX4_why 45 = .ok (.iload 4, 2) := by decide +kernel
theorem dX4_why_47 : decode cX4_why 47 = .ok (.ifCond .ne 6, 3) := by decide +kernel
theorem dX4_why_50 : decode cX4_why 50 = .ok (.iload 5, 2) := by decide +kernel
theorem dX4_why_52 : decode cX4_why 52 = .ok (.ireturn, 1) := by decide +kernel
theorem dX4_why_53 : decode cX4_why 53 = .ok (.iinc 4 (-1), 3) := by decide +kernel
theorem dX4_why_56 : decode cX4_why 56 = .ok (.iinc 5 (-1), 3) := by decide +kernel
theorem dX4_why_59 : decode cX4_why 59 = .ok (.goto (-29), 3) := by decide +kernel
theorem dX4_why_62 : decode cX4_why 62 = .ok (.iconst (-1), 1) := by decide +kernel
theorem dX4_why_63 : decode cX4_why 63 = .ok (.ireturn, 1) := by decide +kernel
theorem dX4_forecast_0 : decode cX4_forecast 0 = .ok (.aload_n 0, 1) := by decide +kernel
theorem dX4_forecast_1 : decode cX4_forecast 1 = .ok (.iload_n 1, 1) := by decide +kernel
theorem dX4_forecast_2 : decode cX4_forecast 2 = .ok (.iload_n 2, 1) := by decide +kernel
theorem dX4_forecast_3 : decode cX4_forecast 3 = .ok (.invokevirtual 70, 3) := by decide +kernel
theorem dX4_forecast_6 : decode cX4_forecast 6 = .ok (.ifCond .ne 6, 3) := by decide +kernel
theorem dX4_forecast_9 : decode cX4_forecast 9 = .ok (.ldc 74, 2) := by decide +kernel
theorem dX4_forecast_11 : decode cX4_forecast 11 = .ok (.ireturn, 1) := by decide +kernel
theorem dX4_forecast_12 : decode cX4_forecast 12 = .ok (.iload_n 3, 1) := by decide +kernel
theorem dX4_forecast_13 : decode cX4_forecast 13 = .ok (.ifCond .lt 9, 3) := by decide +kernel
theorem dX4_forecast_16 : decode cX4_forecast 16 = .ok (.iload_n 3, 1) := by decide +kernel
theorem dX4_forecast_17 : decode cX4_forecast 17 = .ok (.bipush 12, 2) := by decide +kernel
theorem dX4_forecast_19 : decode cX4_forecast 19 = .ok (.if_icmp .le 6, 3) := by decide +kernel
theorem dX4_forecast_22 : decode cX4_forecast 22 = .ok (.ldc 41, 2) := by decide +kernel
theorem dX4_forecast_24 : decode cX4_forecast 24 = .ok (.ireturn, 1) := by decide +kernel
theorem dX4_forecast_25 : decode cX4_forecast 25 = .ok (.aload_n 0, 1) := by decide +kernel
theorem dX4_forecast_26 : decode cX4_forecast 26 = .ok (.getfield 19, 3) := by decide +kernel
theorem dX4_forecast_29 : decode cX4_forecast 29 = .ok (.getfield 78, 3) := by decide +kernel
theorem dX4_forecast_32 : decode cX4_forecast 32 = .ok (.iload_n 1, 1) := by decide +kernel
theorem dX4_forecast_33 : decode cX4_forecast 33 = .ok (.aaload, 1) := by decide +kernel
theorem dX4_forecast_34 : decode cX4_forecast 34 = .ok (.getfield 82, 3) := by decide +kernel
theorem dX4_forecast_37 : decode cX4_forecast 37 = .ok (.iload_n 2, 1) := by decide +kernel
theorem dX4_forecast_38 : decode cX4_forecast 38 = .ok (.aaload, 1) := by decide +kernel
theorem dX4_forecast_39 : decode cX4_forecast 39 = .ok (.aload_n 0, 1) := by decide +kernel
theorem dX4_forecast_40 : decode cX4_forecast 40 = .ok (.getfield 19, 3) := by decide +kernel
theorem dX4_forecast_43 : decode cX4_forecast 43 = .ok (.getfield 127, 3) := by decide +kernel
theorem dX4_forecast_46 : decode cX4_forecast 46 = .ok (.iload_n 3, 1) := by decide +kernel
theorem dX4_forecast_47 : decode cX4_forecast 47 = .ok (.aload_n 0, 1) := by decide +kernel
theorem dX4_forecast_48 : decode cX4_forecast 48 = .ok (.getfield 19, 3) := by decide +kernel
theorem dX4_forecast_51 : decode cX4_forecast 51 = .ok (.getfield 111, 3) := by decide +kernel
theorem dX4_forecast_54 : decode cX4_forecast 54 = .ok (.iconst 4, 1) := by decide +kernel
theorem dX4_forecast_55 : decode cX4_forecast 55 = .ok (.iaload, 1) := by decide +kernel
theorem dX4_forecast_56 : decode cX4_forecast 56 = .ok (.invokevirtual 185, 3) := by decide +kernel
theorem dX4_forecast_59 : decode cX4_forecast 59 = .ok (.ireturn, 1) := by decide +kernel
theorem dX4_ahead_0 : decode cX4_ahead 0 = .ok (.aload_n 0, 1) := by decide +kernel
theorem dX4_ahead_1 : decode cX4_ahead 1 = .ok (.getfield 37, 3) := by decide +kernel
theorem dX4_ahead_4 : decode cX4_ahead 4 = .ok (.ifCond .ne 6, 3) := by decide +kernel
theorem dX4_ahead_7 : decode cX4_ahead 7 = .ok (.ldc 74, 2) := by decide +kernel
theorem dX4_ahead_9 : decode cX4_ahead 9 = .ok (.ireturn, 1) := by decide +kernel
theorem dX4_ahead_10 : decode cX4_ahead 10 = .ok (.iload_n 1, 1) := by decide +kernel
theorem dX4_ahead_11 : decode cX4_ahead 11 = .ok (.iconst 1, 1) := by decide +kernel
theorem dX4_ahead_12 : decode cX4_ahead 12 = .ok (.if_icmp .lt 18, 3) := by decide +kernel
theorem dX4_ahead_15 : decode cX4_ahead 15 = .ok (.iload_n 1, 1) := by decide +kernel
theorem dX4_ahead_16 : decode cX4_ahead 16 = .ok (.bipush 50, 2) := by decide +kernel
theorem dX4_ahead_18 : decode cX4_ahead 18 = .ok (.if_icmp .gt 12, 3) := by decide +kernel
theorem dX4_ahead_21 : decode cX4_ahead 21 = .ok (.iload_n 2, 1) := by decide +kernel
theorem dX4_ahead_22 : decode cX4_ahead 22 = .ok (.ifCond .lt 8, 3) := by decide +kernel
theorem dX4_ahead_25 : decode cX4_ahead 25 = .ok (.iload_n 2, 1) := by decide +kernel
theorem dX4_ahead_26 : decode cX4_ahead 26 = .ok (.iconst 3, 1) := by decide +kernel
theorem dX4_ahead_27 : decode cX4_ahead 27 = .ok (.if_icmp .le 6, 3) := by decide +kernel
theorem dX4_ahead_30 : decode cX4_ahead 30 = .ok (.ldc 41, 2) := by decide +kernel
theorem dX4_ahead_32 : decode cX4_ahead 32 = .ok (.ireturn, 1) := by decide +kernel
theorem dX4_ahead_33 : decode cX4_ahead 33 = .ok (.aload_n 0, 1) := by decide +kernel
theorem dX4_ahead_34 : decode cX4_ahead 34 = .ok (.getfield 23, 3) := by decide +kernel
theorem dX4_ahead_37 : decode cX4_ahead 37 = .ok (.aload_n 0, 1) := by decide +kernel
theorem dX4_ahead_38 : decode cX4_ahead 38 = .ok (.getfield 19, 3) := by decide +kernel
theorem dX4_ahead_41 : decode cX4_ahead 41 = .ok (.invokevirtual 60, 3) := by decide +kernel
theorem dX4_ahead_44 : decode cX4_ahead 44 = .ok (.iconst 0, 1) := by decide +kernel
theorem dX4_ahead_45 : decode cX4_ahead 45 = .ok (.istore_n 3, 1) := by decide +kernel
theorem dX4_ahead_46 : decode cX4_ahead 46 = .ok (.iload_n 3, 1) := by decide +kernel
theorem dX4_ahead_47 : decode cX4_ahead 47 = .ok (.iload_n 1, 1) := by decide +kernel
theorem dX4_ahead_48 : decode cX4_ahead 48 = .ok (.if_icmp .ge 16, 3) := by decide +kernel
theorem dX4_ahead_51 : decode cX4_ahead 51 = .ok (.aload_n 0, 1) := by decide +kernel
theorem dX4_ahead_52 : decode cX4_ahead 52 = .ok (.getfield 23, 3) := by decide +kernel
theorem dX4_ahead_55 : decode cX4_ahead 55 = .ok (.invokevirtual 112, 3) := by decide +kernel
theorem dX4_ahead_58 : decode cX4_ahead 58 = .ok (.iinc 3 1, 3) := by decide +kernel
theorem dX4_ahead_61 : decode cX4_ahead 61 = .ok (.goto (-15), 3) := by decide +kernel
theorem dX4_ahead_64 : decode cX4_ahead 64 = .ok (.iload_n 2, 1) := by decide +kernel
theorem dX4_ahead_65 : decode cX4_ahead 65 = .ok (.tableswitch 67 0 2 #[27, 35, 51], 27) := by decide +kernel
theorem dX4_ahead_92 : decode cX4_ahead 92 = .ok (.aload_n 0, 1) := by decide +kernel
theorem dX4_ahead_93 : decode cX4_ahead 93 = .ok (.getfield 23, 3) := by decide +kernel
theorem dX4_ahead_96 : decode cX4_ahead 96 = .ok (.invokevirtual 115, 3) := by decide +kernel
theorem dX4_ahead_99 : decode cX4_ahead 99 = .ok (.ireturn, 1) := by decide +kernel
theorem dX4_ahead_100 : decode cX4_ahead 100 = .ok (.aload_n 0, 1) := by decide +kernel
theorem dX4_ahead_101 : decode cX4_ahead 101 = .ok (.getfield 23, 3) := by decide +kernel
theorem dX4_ahead_104 : decode cX4_ahead 104 = .ok (.invokevirtual 189, 3) := by decide +kernel
theorem dX4_ahead_107 : decode cX4_ahead 107 = .ok (.aload_n 0, 1) := by decide +kernel
theorem dX4_ahead_108 : decode cX4_ahead 108 = .ok (.getfield 19, 3) := by decide +kernel
theorem dX4_ahead_111 : decode cX4_ahead 111 = .ok (.invokevirtual 189, 3) := by decide +kernel
theorem dX4_ahead_114 : decode cX4_ahead 114 = .ok (.isub, 1) := by decide +kernel
theorem dX4_ahead_115 : decode cX4_ahead 115 = .ok (.ireturn, 1) := by decide +kernel
theorem dX4_ahead_116 : decode cX4_ahead 116 = .ok (.aload_n 0, 1) := by decide +kernel
theorem dX4_ahead_117 : decode cX4_ahead 117 = .ok (.getfield 23, 3) := by decide +kernel
theorem dX4_ahead_120 : decode cX4_ahead 120 = .ok (.invokevirtual 192, 3) := by decide +kernel
theorem dX4_ahead_123 : decode cX4_ahead 123 = .ok (.aload_n 0, 1) := by decide +kernel
theorem dX4_ahead_124 : decode cX4_ahead 124 = .ok (.getfield 19, 3) := by decide +kernel
theorem dX4_ahead_127 : decode cX4_ahead 127 = .ok (.invokevirtual 192, 3) := by decide +kernel
theorem dX4_ahead_130 : decode cX4_ahead 130 = .ok (.isub, 1) := by decide +kernel
theorem dX4_ahead_131 : decode cX4_ahead 131 = .ok (.ireturn, 1) := by decide +kernel
theorem dX4_ahead_132 : decode cX4_ahead 132 = .ok (.aload_n 0, 1) := by decide +kernel
theorem dX4_ahead_133 : decode cX4_ahead 133 = .ok (.getfield 23, 3) := by decide +kernel
theorem dX4_ahead_136 : decode cX4_ahead 136 = .ok (.getfield 162, 3) := by decide +kernel
theorem dX4_ahead_139 : decode cX4_ahead 139 = .ok (.ireturn, 1) := by decide +kernel
theorem dX4_until_0 : decode cX4_until 0 = .ok (.aload_n 0, 1) := by decide +kernel
theorem dX4_until_1 : decode cX4_until 1 = .ok (.iload_n 1, 1) := by decide +kernel
theorem dX4_until_2 : decode cX4_until 2 = .ok (.invokevirtual 93, 3) := by decide +kernel
theorem dX4_until_5 : decode cX4_until 5 = .ok (.ifCond .ne 6, 3) := by decide +kernel
theorem dX4_until_8 : decode cX4_until 8 = .ok (.ldc 74, 2) := by decide +kernel
theorem dX4_until_10 : decode cX4_until 10 = .ok (.ireturn, 1) := by decide +kernel
theorem dX4_until_11 : decode cX4_until 11 = .ok (.iload_n 2, 1) := by decide +kernel
theorem dX4_until_12 : decode cX4_until 12 = .ok (.iconst 1, 1) := by decide +kernel
theorem dX4_until_13 : decode cX4_until 13 = .ok (.if_icmp .lt 12, 3) := by decide +kernel
theorem dX4_until_16 : decode cX4_until 16 = .ok (.iload_n 2, 1) := by decide +kernel
theorem dX4_until_17 : decode cX4_until 17 = .ok (.getstatic 100, 3) := by decide +kernel
theorem dX4_until_20 : decode cX4_until 20 = .ok (.iconst 1, 1) := by decide +kernel
theorem dX4_until_21 : decode cX4_until 21 = .ok (.iaload, 1) := by decide +kernel
theorem dX4_until_22 : decode cX4_until 22 = .ok (.if_icmp .le 6, 3) := by decide +kernel
theorem dX4_until_25 : decode cX4_until 25 = .ok (.ldc 41, 2) := by decide +kernel
theorem dX4_until_27 : decode cX4_until 27 = .ok (.ireturn, 1) := by decide +kernel
theorem dX4_until_28 : decode cX4_until 28 = .ok (.aload_n 0, 1) := by decide +kernel
theorem dX4_until_29 : decode cX4_until 29 = .ok (.getfield 23, 3) := by decide +kernel
theorem dX4_until_32 : decode cX4_until 32 = .ok (.aload_n 0, 1) := by decide +kernel
theorem dX4_until_33 : decode cX4_until 33 = .ok (.getfield 19, 3) := by decide +kernel
theorem dX4_until_36 : decode cX4_until 36 = .ok (.invokevirtual 60, 3) := by decide +kernel
theorem dX4_until_39 : decode cX4_until 39 = .ok (.aload_n 0, 1) := by decide +kernel
theorem dX4_until_40 : decode cX4_until 40 = .ok (.getfield 23, 3) := by decide +kernel
theorem dX4_until_43 : decode cX4_until 43 = .ok (.getfield 78, 3) := by decide +kernel
theorem dX4_until_46 : decode cX4_until 46 = .ok (.iload_n 1, 1) := by decide +kernel
theorem dX4_until_47 : decode cX4_until 47 = .ok (.aaload, 1) := by decide +kernel
theorem dX4_until_48 : decode cX4_until 48 = .ok (.astore_n 3, 1) := by decide +kernel
theorem dX4_until_49 : decode cX4_until 49 = .ok (.iconst 1, 1) := by decide +kernel
theorem dX4_until_50 : decode cX4_until 50 = .ok (.istore 4, 2) := by decide +kernel
theorem dX4_until_52 : decode cX4_until 52 = .ok (.iload 4, 2) := by decide +kernel
theorem dX4_until_54 : decode cX4_until 54 = .ok (.bipush 50, 2) := by decide +kernel
theorem dX4_until_56 : decode cX4_until 56 = .ok (.if_icmp .gt 34, 3) := by decide +kernel
theorem dX4_until_59 : decode cX4_until 59 = .ok (.aload_n 0, 1) := by decide +kernel
theorem dX4_until_60 : decode cX4_until 60 = .ok (.getfield 23, 3) := by decide +kernel
theorem dX4_until_63 : decode cX4_until 63 = .ok (.invokevirtual 112, 3) := by decide +kernel
theorem dX4_until_66 : decode cX4_until 66 = .ok (.aload_n 3, 1) := by decide +kernel
theorem dX4_until_67 : decode cX4_until 67 = .ok (.aload_n 0, 1) := by decide +kernel
theorem dX4_until_68 : decode cX4_until 68 = .ok (.getfield 23, 3) := by decide +kernel
theorem dX4_until_71 : decode cX4_until 71 = .ok (.getfield 127, 3) := by decide +kernel
theorem dX4_until_74 : decode cX4_until 74 = .ok (.invokevirtual 195, 3) := by decide +kernel
theorem dX4_until_77 : decode cX4_until 77 = .ok (.iload_n 2, 1) := by decide +kernel
theorem dX4_until_78 : decode cX4_until 78 = .ok (.if_icmp .lt 6, 3) := by decide +kernel
theorem dX4_until_81 : decode cX4_until 81 = .ok (.iload 4, 2) := by decide +kernel
theorem dX4_until_83 : decode cX4_until 83 = .ok (.ireturn, 1) := by decide +kernel
theorem dX4_until_84 : decode cX4_until 84 = .ok (.iinc 4 1, 3) := by decide +kernel
theorem dX4_until_87 : decode cX4_until 87 = .ok (.goto (-35), 3) := by decide +kernel
theorem dX4_until_90 : decode cX4_until 90 = .ok (.iconst (-1), 1) := by decide +kernel
theorem dX4_until_91 : decode cX4_until 91 = .ok (.ireturn, 1) := by decide +kernel
theorem dX4_needs_0 : decode cX4_needs 0 = .ok (.aload_n 0, 1) := by decide +kernel
theorem dX4_needs_1 : decode cX4_needs 1 = .ok (.iload_n 1, 1) := by decide +kernel
theorem dX4_needs_2 : decode cX4_needs 2 = .ok (.iload_n 2, 1) := by decide +kernel
theorem dX4_needs_3 : decode cX4_needs 3 = .ok (.invokevirtual 70, 3) := by decide +kernel
theorem dX4_needs_6 : decode cX4_needs 6 = .ok (.ifCond .ne 6, 3) := by decide +kernel
theorem dX4_needs_9 : decode cX4_needs 9 = .ok (.ldc 74, 2) := by decide +kernel
theorem dX4_needs_11 : decode cX4_needs 11 = .ok (.ireturn, 1) := by decide +kernel
theorem dX4_needs_12 : decode cX4_needs 12 = .ok (.iload_n 3, 1) := by decide +kernel
theorem dX4_needs_13 : decode cX4_needs 13 = .ok (.ifCond .lt 9, 3) := by decide +kernel
theorem dX4_needs_16 : decode cX4_needs 16 = .ok (.iload_n 3, 1) := by decide +kernel
theorem dX4_needs_17 : decode cX4_needs 17 = .ok (.bipush 99, 2) := by decide +kernel
theorem dX4_needs_19 : decode cX4_needs 19 = .ok (.if_icmp .le 6, 3) := by decide +kernel
theorem dX4_needs_22 : decode cX4_needs 22 = .ok (.ldc 41, 2) := by decide +kernel
theorem dX4_needs_24 : decode cX4_needs 24 = .ok (.ireturn, 1) := by decide +kernel
theorem dX4_needs_25 : decode cX4_needs 25 = .ok (.aload_n 0, 1) := by decide +kernel
theorem dX4_needs_26 : decode cX4_needs 26 = .ok (.getfield 19, 3) := by decide +kernel
theorem dX4_needs_29 : decode cX4_needs 29 = .ok (.getfield 78, 3) := by decide +kernel
theorem dX4_needs_32 : decode cX4_needs 32 = .ok (.iload_n 1, 1) := by decide +kernel
theorem dX4_needs_33 : decode cX4_needs 33 = .ok (.aaload, 1) := by decide +kernel
theorem dX4_needs_34 : decode cX4_needs 34 = .ok (.astore 4, 2) := by decide +kernel
theorem dX4_needs_36 : decode cX4_needs 36 = .ok (.aload 4, 2) := by decide +kernel
theorem dX4_needs_38 : decode cX4_needs 38 = .ok (.getfield 82, 3) := by decide +kernel
theorem dX4_needs_41 : decode cX4_needs 41 = .ok (.iload_n 2, 1) := by decide +kernel
theorem dX4_needs_42 : decode cX4_needs 42 = .ok (.aaload, 1) := by decide +kernel
theorem dX4_needs_43 : decode cX4_needs 43 = .ok (.astore 5, 2) := by decide +kernel
theorem dX4_needs_45 : decode cX4_needs 45 = .ok (.aload_n 0, 1) := by decide +kernel
theorem dX4_needs_46 : decode cX4_needs 46 = .ok (.getfield 19, 3) := by decide +kernel
theorem dX4_needs_49 : decode cX4_needs 49 = .ok (.aload 4, 2) := by decide +kernel
theorem dX4_needs_51 : decode cX4_needs 51 = .ok (.iload_n 2, 1) := by decide +kernel
theorem dX4_needs_52 : decode cX4_needs 52 = .ok (.invokevirtual 198, 3) := by decide +kernel
theorem dX4_needs_55 : decode cX4_needs 55 = .ok (.iload_n 3, 1) := by decide +kernel
theorem dX4_needs_56 : decode cX4_needs 56 = .ok (.if_icmp .lt 5, 3) := by decide +kernel
theorem dX4_needs_59 : decode cX4_needs 59 = .ok (.iconst 0, 1) := by decide +kernel
theorem dX4_needs_60 : decode cX4_needs 60 = .ok (.ireturn, 1) := by decide +kernel
theorem dX4_needs_61 : decode cX4_needs 61 = .ok (.aload 5, 2) := by decide +kernel
theorem dX4_needs_63 : decode cX4_needs 63 = .ok (.aload_n 0, 1) := by decide +kernel
theorem dX4_needs_64 : decode cX4_needs 64 = .ok (.getfield 19, 3) := by decide +kernel
theorem dX4_needs_67 : decode cX4_needs 67 = .ok (.getfield 127, 3) := by decide +kernel
theorem dX4_needs_70 : decode cX4_needs 70 = .ok (.aload_n 0, 1) := by decide +kernel
theorem dX4_needs_71 : decode cX4_needs 71 = .ok (.getfield 19, 3) := by decide +kernel
theorem dX4_needs_74 : decode cX4_needs 74 = .ok (.getfield 111, 3) := by decide +kernel
theorem dX4_needs_77 : decode cX4_needs 77 = .ok (.iconst 1, 1) := by decide +kernel
theorem dX4_needs_78 : decode cX4_needs 78 = .ok (.iaload, 1) := by decide +kernel
theorem dX4_needs_79 : decode cX4_needs 79 = .ok (.aload_n 0, 1) := by decide +kernel
theorem dX4_needs_80 : decode cX4_needs 80 = .ok (.getfield 19, 3) := by decide +kernel
theorem dX4_needs_83 : decode cX4_needs 83 = .ok (.getfield 111, 3) := by decide +kernel
theorem dX4_needs_86 : decode cX4_needs 86 = .ok (.iconst 4, 1) := by decide +kernel
theorem dX4_needs_87 : decode cX4_needs 87 = .ok (.iaload, 1) := by decide +kernel
theorem dX4_needs_88 : decode cX4_needs 88 = .ok (.invokevirtual 185, 3) := by decide +kernel
theorem dX4_needs_91 : decode cX4_needs 91 = .ok (.istore 6, 2) := by decide +kernel
theorem dX4_needs_93 : decode cX4_needs 93 = .ok (.aload 5, 2) := by decide +kernel
theorem dX4_needs_95 : decode cX4_needs 95 = .ok (.iload_n 3, 1) := by decide +kernel
theorem dX4_needs_96 : decode cX4_needs 96 = .ok (.aload 4, 2) := by decide +kernel
theorem dX4_needs_98 : decode cX4_needs 98 = .ok (.getfield 121, 3) := by decide +kernel
theorem dX4_needs_101 : decode cX4_needs 101 = .ok (.aload 4, 2) := by decide +kernel
theorem dX4_needs_103 : decode cX4_needs 103 = .ok (.aload_n 0, 1) := by decide +kernel
theorem dX4_needs_104 : decode cX4_needs 104 = .ok (.getfield 19, 3) := by decide +kernel
theorem dX4_needs_107 : decode cX4_needs 107 = .ok (.getfield 127, 3) := by decide +kernel
theorem dX4_needs_110 : decode cX4_needs 110 = .ok (.invokevirtual 195, 3) := by decide +kernel
theorem dX4_needs_113 : decode cX4_needs 113 = .ok (.iload 6, 2) := by decide +kernel
theorem dX4_needs_115 : decode cX4_needs 115 = .ok (.invokevirtual 202, 3) := by decide +kernel
theorem dX4_needs_118 : decode cX4_needs 118 = .ok (.ireturn, 1) := by decide +kernel
theorem dX4_replay_0 : decode cX4_replay 0 = .ok (.aload_n 0, 1) := by decide +kernel
theorem dX4_replay_1 : decode cX4_replay 1 = .ok (.iload_n 1, 1) := by decide +kernel
theorem dX4_replay_2 : decode cX4_replay 2 = .ok (.invokevirtual 93, 3) := by decide +kernel
theorem dX4_replay_5 : decode cX4_replay 5 = .ok (.ifCond .ne 6, 3) := by decide +kernel
theorem dX4_replay_8 : decode cX4_replay 8 = .ok (.ldc 74, 2) := by decide +kernel
theorem dX4_replay_10 : decode cX4_replay 10 = .ok (.ireturn, 1) := by decide +kernel
theorem dX4_replay_11 : decode cX4_replay 11 = .ok (.iload_n 2, 1) := by decide +kernel
theorem dX4_replay_12 : decode cX4_replay 12 = .ok (.iconst 1, 1) := by decide +kernel
theorem dX4_replay_13 : decode cX4_replay 13 = .ok (.if_icmp .lt 31, 3) := by decide +kernel
theorem dX4_replay_16 : decode cX4_replay 16 = .ok (.iload_n 2, 1) := by decide +kernel
theorem dX4_replay_17 : decode cX4_replay 17 = .ok (.bipush 6, 2) := by decide +kernel
theorem dX4_replay_19 : decode cX4_replay 19 = .ok (.if_icmp .gt 25, 3) := by decide +kernel
theorem dX4_replay_22 : decode cX4_replay 22 = .ok (.iload_n 3, 1) := by decide +kernel
theorem dX4_replay_23 : decode cX4_replay 23 = .ok (.iconst 1, 1) := by decide +kernel
theorem dX4_replay_24 : decode cX4_replay 24 = .ok (.if_icmp .lt 20, 3) := by decide +kernel
theorem dX4_replay_27 : decode cX4_replay 27 = .ok (.iload_n 3, 1) := by decide +kernel
theorem dX4_replay_28 : decode cX4_replay 28 = .ok (.bipush 6, 2) := by decide +kernel
theorem dX4_replay_30 : decode cX4_replay 30 = .ok (.if_icmp .gt 14, 3) := by decide +kernel
theorem dX4_replay_33 : decode cX4_replay 33 = .ok (.iload 4, 2) := by decide +kernel
theorem dX4_replay_35 : decode cX4_replay 35 = .ok (.ifCond .lt 9, 3) := by decide +kernel
theorem dX4_replay_38 : decode cX4_replay 38 = .ok (.iload 4, 2) := by decide +kernel
theorem dX4_replay_40 : decode cX4_replay 40 = .ok (.iconst 2, 1) := by decide +kernel
theorem dX4_replay_41 : decode cX4_replay 41 = .ok (.if_icmp .le 6, 3) := by decide +kernel
theorem dX4_replay_44 : decode cX4_replay 44 = .ok (.ldc 41, 2) := by decide +kernel
theorem dX4_replay_46 : decode cX4_replay 46 = .ok (.ireturn, 1) := by decide +kernel
theorem dX4_replay_47 : decode cX4_replay 47 = .ok (.aload_n 0, 1) := by decide +kernel
theorem dX4_replay_48 : decode cX4_replay 48 = .ok (.iload_n 1, 1) := by decide +kernel
theorem dX4_replay_49 : decode cX4_replay 49 = .ok (.iload_n 2, 1) := by decide +kernel
theorem dX4_replay_50 : decode cX4_replay 50 = .ok (.iload_n 3, 1) := by decide +kernel
theorem dX4_replay_51 : decode cX4_replay 51 = .ok (.invokevirtual 206, 3) := by decide +kernel
theorem dX4_replay_54 : decode cX4_replay 54 = .ok (.astore 5, 2) := by decide +kernel
theorem dX4_replay_56 : decode cX4_replay 56 = .ok (.iload 4, 2) := by decide +kernel
theorem dX4_replay_58 : decode cX4_replay 58 = .ok (.lookupswitch 38 #[(0, 26), (1, 32)], 26) := by decide +kernel
theorem dX4_replay_84 : decode cX4_replay 84 = .ok (.aload 5, 2) := by decide +kernel
theorem dX4_replay_86 : decode cX4_replay 86 = .ok (.getfield 134, 3) := by decide +kernel
theorem dX4_replay_89 : decode cX4_replay 89 = .ok (.ireturn, 1) := by decide +kernel
theorem dX4_replay_90 : decode cX4_replay 90 = .ok (.aload 5, 2) := by decide +kernel
theorem dX4_replay_92 : decode cX4_replay 92 = .ok (.getfield 137, 3) := by decide +kernel
theorem dX4_replay_95 : decode cX4_replay 95 = .ok (.ireturn, 1) := by decide +kernel
theorem dX4_replay_96 : decode cX4_replay 96 = .ok (.aload 5, 2) := by decide +kernel
theorem dX4_replay_98 : decode cX4_replay 98 = .ok (.getfield 140, 3) := by decide +kernel
theorem dX4_replay_101 : decode cX4_replay 101 = .ok (.ireturn, 1) := by decide +kernel
theorem dX4_best_0 : decode cX4_best 0 = .ok (.aload_n 0, 1) := by decide +kernel
theorem dX4_best_1 : decode cX4_best 1 = .ok (.iload_n 1, 1) := by decide +kernel
theorem dX4_best_2 : decode cX4_best 2 = .ok (.invokevirtual 93, 3) := by decide +kernel
theorem dX4_best_5 : decode cX4_best 5 = .ok (.ifCond .ne 6, 3) := by decide +kernel
theorem dX4_best_8 : decode cX4_best 8 = .ok (.ldc 74, 2) := by decide +kernel
theorem dX4_best_10 : decode cX4_best 10 = .ok (.ireturn, 1) := by decide +kernel
theorem dX4_best_11 : decode cX4_best 11 = .ok (.iconst (-1), 1) := by decide +kernel
theorem dX4_best_12 : decode cX4_best 12 = .ok (.istore_n 2, 1) := by decide +kernel
theorem dX4_best_13 : decode cX4_best 13 = .ok (.iconst 0, 1) := by decide +kernel
theorem dX4_best_14 : decode cX4_best 14 = .ok (.istore_n 3, 1) := by decide +kernel
theorem dX4_best_15 : decode cX4_best 15 = .ok (.iconst 1, 1) := by decide +kernel
theorem dX4_best_16 : decode cX4_best 16 = .ok (.istore 4, 2) := by decide +kernel
theorem dX4_best_18 : decode cX4_best 18 = .ok (.iload 4, 2) := by decide +kernel
theorem dX4_best_20 : decode cX4_best 20 = .ok (.bipush 6, 2) := by decide +kernel
theorem dX4_best_22 : decode cX4_best 22 = .ok (.if_icmp .gt 62, 3) := by decide +kernel
theorem dX4_best_25 : decode cX4_best 25 = .ok (.iconst 1, 1) := by decide +kernel
theorem dX4_best_26 : decode cX4_best 26 = .ok (.istore 5, 2) := by decide +kernel
theorem dX4_best_28 : decode cX4_best 28 = .ok (.iload 5, 2) := by decide +kernel
theorem dX4_best_30 : decode cX4_best 30 = .ok (.bipush 6, 2) := by decide +kernel
theorem dX4_best_32 : decode cX4_best 32 = .ok (.if_icmp .gt 46, 3) := by decide +kernel
theorem dX4_best_35 : decode cX4_best 35 = .ok (.aload_n 0, 1) := by decide +kernel
theorem dX4_best_36 : decode cX4_best 36 = .ok (.iload_n 1, 1) := by decide +kernel
theorem dX4_best_37 : decode cX4_best 37 = .ok (.iload 4, 2) := by decide +kernel
theorem dX4_best_39 : decode cX4_best 39 = .ok (.iload 5, 2) := by decide +kernel
theorem dX4_best_41 : decode cX4_best 41 = .ok (.invokevirtual 206, 3) := by decide +kernel
theorem dX4_best_44 : decode cX4_best 44 = .ok (.invokevirtual 210, 3) := by decide +kernel
theorem dX4_best_47 : decode cX4_best 47 = .ok (.istore 6, 2) := by decide +kernel
theorem dX4_best_49 : decode cX4_best 49 = .ok (.iload_n 2, 1) := by decide +kernel
theorem dX4_best_50 : decode cX4_best 50 = .ok (.iconst (-1), 1) := by decide +kernel
theorem dX4_best_51 : decode cX4_best 51 = .ok (.if_icmp .eq 9, 3) := by decide +kernel
theorem dX4_best_54 : decode cX4_best 54 = .ok (.iload 6, 2) := by decide +kernel
theorem dX4_best_56 : decode cX4_best 56 = .ok (.iload_n 3, 1) := by decide +kernel
theorem dX4_best_57 : decode cX4_best 57 = .ok (.if_icmp .ge 15, 3) := by decide +kernel
theorem dX4_best_60 : decode cX4_best 60 = .ok (.bipush 10, 2) := by decide +kernel
theorem dX4_best_62 : decode cX4_best 62 = .ok (.iload 4, 2) := by decide +kernel
theorem dX4_best_64 : decode cX4_best 64 = .ok (.imul, 1) := by decide +kernel
theorem dX4_best_65 : decode cX4_best 65 = .ok (.iload 5, 2) := by decide +kernel
theorem dX4_best_67 : decode cX4_best 67 = .ok (.iadd, 1) := by decide +kernel
theorem dX4_best_68 : decode cX4_best 68 = .ok (.istore_n 2, 1) := by decide +kernel
theorem dX4_best_69 : decode cX4_best 69 = .ok (.iload 6, 2) := by decide +kernel
theorem dX4_best_71 : decode cX4_best 71 = .ok (.istore_n 3, 1) := by decide +kernel
theorem dX4_best_72 : decode cX4_best 72 = .ok (.iinc 5 1, 3) := by decide +kernel
theorem dX4_best_75 : decode cX4_best 75 = .ok (.goto (-47), 3) := by decide +kernel
theorem dX4_best_78 : decode cX4_best 78 = .ok (.iinc 4 1, 3) := by decide +kernel
theorem dX4_best_81 : decode cX4_best 81 = .ok (.goto (-63), 3) := by decide +kernel
theorem dX4_best_84 : decode cX4_best 84 = .ok (.iload_n 2, 1) := by decide +kernel
theorem dX4_best_85 : decode cX4_best 85 = .ok (.ireturn, 1) := by decide +kernel
theorem dX4_hasService_0 : decode cX4_hasService 0 = .ok (.aload_n 0, 1) := by decide +kernel
theorem dX4_hasService_1 : decode cX4_hasService 1 = .ok (.getfield 37, 3) := by decide +kernel
theorem dX4_hasService_4 : decode cX4_hasService 4 = .ok (.ifCond .eq 22, 3) := by decide +kernel
theorem dX4_hasService_7 : decode cX4_hasService 7 = .ok (.iload_n 1, 1) := by decide +kernel
theorem dX4_hasService_8 : decode cX4_hasService 8 = .ok (.ifCond .lt 18, 3) := by decide +kernel
theorem dX4_hasService_11 : decode cX4_hasService 11 = .ok (.iload_n 1, 1) := by decide +kernel
theorem dX4_hasService_12 : decode cX4_hasService 12 = .ok (.aload_n 0, 1) := by decide +kernel
theorem dX4_hasService_13 : decode cX4_hasService 13 = .ok (.getfield 19, 3) := by decide +kernel
theorem dX4_hasService_16 : decode cX4_hasService 16 = .ok (.getfield 64, 3) := by decide +kernel
theorem dX4_hasService_19 : decode cX4_hasService 19 = .ok (.if_icmp .ge 7, 3) := by decide +kernel
theorem dX4_hasService_22 : decode cX4_hasService 22 = .ok (.iconst 1, 1) := by decide +kernel
theorem dX4_hasService_23 : decode cX4_hasService 23 = .ok (.goto 4, 3) := by decide +kernel
theorem dX4_hasService_26 : decode cX4_hasService 26 = .ok (.iconst 0, 1) := by decide +kernel
theorem dX4_hasService_27 : decode cX4_hasService 27 = .ok (.ireturn, 1) := by decide +kernel
theorem dX4_hasMeasure_0 : decode cX4_hasMeasure 0 = .ok (.aload_n 0, 1) := by decide +kernel
theorem dX4_hasMeasure_1 : decode cX4_hasMeasure 1 = .ok (.iload_n 1, 1) := by decide +kernel
theorem dX4_hasMeasure_2 : decode cX4_hasMeasure 2 = .ok (.invokevirtual 93, 3) := by decide +kernel
theorem dX4_hasMeasure_5 : decode cX4_hasMeasure 5 = .ok (.ifCond .eq 27, 3) := by decide +kernel
theorem dX4_hasMeasure_8 : decode cX4_hasMeasure 8 = .ok (.iload_n 2, 1) := by decide +kernel
theorem dX4_hasMeasure_9 : decode cX4_hasMeasure 9 = .ok (.ifCond .lt 23, 3) := by decide +kernel
theorem dX4_hasMeasure_12 : decode cX4_hasMeasure 12 = .ok (.iload_n 2, 1) := by decide +kernel
theorem dX4_hasMeasure_13 : decode cX4_hasMeasure 13 = .ok (.aload_n 0, 1) := by decide +kernel
theorem dX4_hasMeasure_14 : decode cX4_hasMeasure 14 = .ok (.getfield 19, 3) := by decide +kernel
theorem dX4_hasMeasure_17 : decode cX4_hasMeasure 17 = .ok (.getfield 78, 3) := by decide +kernel
theorem dX4_hasMeasure_20 : decode cX4_hasMeasure 20 = .ok (.iload_n 1, 1) := by decide +kernel
theorem dX4_hasMeasure_21 : decode cX4_hasMeasure 21 = .ok (.aaload, 1) := by decide +kernel
theorem dX4_hasMeasure_22 : decode cX4_hasMeasure 22 = .ok (.getfield 118, 3) := by decide +kernel
theorem dX4_hasMeasure_25 : decode cX4_hasMeasure 25 = .ok (.if_icmp .ge 7, 3) := by decide +kernel
theorem dX4_hasMeasure_28 : decode cX4_hasMeasure 28 = .ok (.iconst 1, 1) := by decide +kernel
theorem dX4_hasMeasure_29 : decode cX4_hasMeasure 29 = .ok (.goto 4, 3) := by decide +kernel
theorem dX4_hasMeasure_32 : decode cX4_hasMeasure 32 = .ok (.iconst 0, 1) := by decide +kernel
theorem dX4_hasMeasure_33 : decode cX4_hasMeasure 33 = .ok (.ireturn, 1) := by decide +kernel
theorem dX4_keepForUndo_0 : decode cX4_keepForUndo 0 = .ok (.aload_n 0, 1) := by decide +kernel
theorem dX4_keepForUndo_1 : decode cX4_keepForUndo 1 = .ok (.getfield 26, 3) := by decide +kernel
theorem dX4_keepForUndo_4 : decode cX4_keepForUndo 4 = .ok (.aload_n 0, 1) := by decide +kernel
theorem dX4_keepForUndo_5 : decode cX4_keepForUndo 5 = .ok (.getfield 30, 3) := by decide +kernel
theorem dX4_keepForUndo_8 : decode cX4_keepForUndo 8 = .ok (.aaload, 1) := by decide +kernel
theorem dX4_keepForUndo_9 : decode cX4_keepForUndo 9 = .ok (.aload_n 0, 1) := by decide +kernel
theorem dX4_keepForUndo_10 : decode cX4_keepForUndo 10 = .ok (.getfield 19, 3) := by decide +kernel
theorem dX4_keepForUndo_13 : decode cX4_keepForUndo 13 = .ok (.invokevirtual 60, 3) := by decide +kernel
theorem dX4_keepForUndo_16 : decode cX4_keepForUndo 16 = .ok (.aload_n 0, 1) := by decide +kernel
theorem dX4_keepForUndo_17 : decode cX4_keepForUndo 17 = .ok (.aload_n 0, 1) := by decide +kernel
theorem dX4_keepForUndo_18 : decode cX4_keepForUndo 18 = .ok (.getfield 30, 3) := by decide +kernel
theorem dX4_keepForUndo_21 : decode cX4_keepForUndo 21 = .ok (.bipush 9, 2) := by decide +kernel
theorem dX4_keepForUndo_23 : decode cX4_keepForUndo 23 = .ok (.if_icmp .ne 7, 3) := by decide +kernel
theorem dX4_keepForUndo_26 : decode cX4_keepForUndo 26 = .ok (.iconst 0, 1) := by decide +kernel
theorem dX4_keepForUndo_27 : decode cX4_keepForUndo 27 = .ok (.goto 9, 3) := by decide +kernel
theorem dX4_keepForUndo_30 : decode cX4_keepForUndo 30 = .ok (.aload_n 0, 1) := by decide +kernel
theorem dX4_keepForUndo_31 : decode cX4_keepForUndo 31 = .ok (.getfield 30, 3) := by decide +kernel
theorem dX4_keepForUndo_34 : decode cX4_keepForUndo 34 = .ok (.iconst 1, 1) := by decide +kernel
theorem dX4_keepForUndo_35 : decode cX4_keepForUndo 35 = .ok (.iadd, 1) := by decide +kernel
theorem dX4_keepForUndo_36 : decode cX4_keepForUndo 36 = .ok (.putfield 30, 3) := by decide +kernel
theorem dX4_keepForUndo_39 : decode cX4_keepForUndo 39 = .ok (.aload_n 0, 1) := by decide +kernel
theorem dX4_keepForUndo_40 : decode cX4_keepForUndo 40 = .ok (.aload_n 0, 1) := by decide +kernel
theorem dX4_keepForUndo_41 : decode cX4_keepForUndo 41 = .ok (.getfield 34, 3) := by decide +kernel
theorem dX4_keepForUndo_44 : decode cX4_keepForUndo 44 = .ok (.iconst 1, 1) := by decide +kernel
theorem dX4_keepForUndo_45 : decode cX4_keepForUndo 45 = .ok (.iadd, 1) := by decide +kernel
theorem dX4_keepForUndo_46 : decode cX4_keepForUndo 46 = .ok (.bipush 10, 2) := by decide +kernel
theorem dX4_keepForUndo_48 : decode cX4_keepForUndo 48 = .ok (.invokestatic 213, 3) := by decide +kernel
theorem dX4_keepForUndo_51 : decode cX4_keepForUndo 51 = .ok (.putfield 34, 3) := by decide +kernel
theorem dX4_keepForUndo_54 : decode cX4_keepForUndo 54 = .ok (.return_, 1) := by decide +kernel
theorem dX4_afterOneRound_0 : decode cX4_afterOneRound 0 = .ok (.aload_n 0, 1) := by decide +kernel
theorem dX4_afterOneRound_1 : decode cX4_afterOneRound 1 = .ok (.getfield 23, 3) := by decide +kernel
theorem dX4_afterOneRound_4 : decode cX4_afterOneRound 4 = .ok (.aload_n 0, 1) := by decide +kernel
theorem dX4_afterOneRound_5 : decode cX4_afterOneRound 5 = .ok (.getfield 19, 3) := by decide +kernel
theorem dX4_afterOneRound_8 : decode cX4_afterOneRound 8 = .ok (.invokevirtual 60, 3) := by decide +kernel
theorem dX4_afterOneRound_11 : decode cX4_afterOneRound 11 = .ok (.aload_n 0, 1) := by decide +kernel
theorem dX4_afterOneRound_12 : decode cX4_afterOneRound 12 = .ok (.getfield 23, 3) := by decide +kernel
theorem dX4_afterOneRound_15 : decode cX4_afterOneRound 15 = .ok (.invokevirtual 112, 3) := by decide +kernel
theorem dX4_afterOneRound_18 : decode cX4_afterOneRound 18 = .ok (.aload_n 0, 1) := by decide +kernel
theorem dX4_afterOneRound_19 : decode cX4_afterOneRound 19 = .ok (.getfield 23, 3) := by decide +kernel
theorem dX4_afterOneRound_22 : decode cX4_afterOneRound 22 = .ok (.getfield 78, 3) := by decide +kernel
theorem dX4_afterOneRound_25 : decode cX4_afterOneRound 25 = .ok (.iload_n 1, 1) := by decide +kernel
theorem dX4_afterOneRound_26 : decode cX4_afterOneRound 26 = .ok (.aaload, 1) := by decide +kernel
theorem dX4_afterOneRound_27 : decode cX4_afterOneRound 27 = .ok (.areturn, 1) := by decide +kernel
theorem dX4_replayed_0 : decode cX4_replayed 0 = .ok (.aload_n 0, 1) := by decide +kernel
theorem dX4_replayed_1 : decode cX4_replayed 1 = .ok (.getfield 19, 3) := by decide +kernel
theorem dX4_replayed_4 : decode cX4_replayed 4 = .ok (.getfield 78, 3) := by decide +kernel
theorem dX4_replayed_7 : decode cX4_replayed 7 = .ok (.iload_n 1, 1) := by decide +kernel
theorem dX4_replayed_8 : decode cX4_replayed 8 = .ok (.aaload, 1) := by decide +kernel
theorem dX4_replayed_9 : decode cX4_replayed 9 = .ok (.astore 4, 2) := by decide +kernel
theorem dX4_replayed_11 : decode cX4_replayed 11 = .ok (.aload_n 0, 1) := by decide +kernel
theorem dX4_replayed_12 : decode cX4_replayed 12 = .ok (.getfield 23, 3) := by decide +kernel
theorem dX4_replayed_15 : decode cX4_replayed 15 = .ok (.aload_n 0, 1) := by decide +kernel
theorem dX4_replayed_16 : decode cX4_replayed 16 = .ok (.getfield 19, 3) := by decide +kernel
theorem dX4_replayed_19 : decode cX4_replayed 19 = .ok (.aload 4, 2) := by decide +kernel
theorem dX4_replayed_21 : decode cX4_replayed 21 = .ok (.invokevirtual 219, 3) := by decide +kernel
theorem dX4_replayed_24 : decode cX4_replayed 24 = .ok (.aload_n 0, 1) := by decide +kernel
theorem dX4_replayed_25 : decode cX4_replayed 25 = .ok (.getfield 23, 3) := by decide +kernel
theorem dX4_replayed_28 : decode cX4_replayed 28 = .ok (.getfield 78, 3) := by decide +kernel
theorem dX4_replayed_31 : decode cX4_replayed 31 = .ok (.iconst 0, 1) := by decide +kernel
theorem dX4_replayed_32 : decode cX4_replayed 32 = .ok (.aaload, 1) := by decide +kernel
theorem dX4_replayed_33 : decode cX4_replayed 33 = .ok (.astore 5, 2) := by decide +kernel
theorem dX4_replayed_35 : decode cX4_replayed 35 = .ok (.aload 5, 2) := by decide +kernel
theorem dX4_replayed_37 : decode cX4_replayed 37 = .ok (.getfield 103, 3) := by decide +kernel
theorem dX4_replayed_40 : decode cX4_replayed 40 = .ok (.iconst 3, 1) := by decide +kernel
theorem dX4_replayed_41 : decode cX4_replayed 41 = .ok (.iload_n 2, 1) := by decide +kernel
theorem dX4_replayed_42 : decode cX4_replayed 42 = .ok (.iastore, 1) := by decide +kernel
theorem dX4_replayed_43 : decode cX4_replayed 43 = .ok (.aload 5, 2) := by decide +kernel
theorem dX4_replayed_45 : decode cX4_replayed 45 = .ok (.getfield 103, 3) := by decide +kernel
theorem dX4_replayed_48 : decode cX4_replayed 48 = .ok (.iconst 4, 1) := by decide +kernel
theorem dX4_replayed_49 : decode cX4_replayed 49 = .ok (.iload_n 3, 1) := by decide +kernel
theorem dX4_replayed_50 : decode cX4_replayed 50 = .ok (.iastore, 1) := by decide +kernel
theorem dX4_replayed_51 : decode cX4_replayed 51 = .ok (.aload_n 0, 1) := by decide +kernel
theorem dX4_replayed_52 : decode cX4_replayed 52 = .ok (.getfield 19, 3) := by decide +kernel
theorem dX4_replayed_55 : decode cX4_replayed 55 = .ok (.invokevirtual 143, 3) := by decide +kernel
theorem dX4_replayed_58 : decode cX4_replayed 58 = .ok (.istore 6, 2) := by decide +kernel
theorem dX4_replayed_60 : decode cX4_replayed 60 = .ok (.iconst 0, 1) := by decide +kernel
theorem dX4_replayed_61 : decode cX4_replayed 61 = .ok (.istore 7, 2) := by decide +kernel
theorem dX4_replayed_63 : decode cX4_replayed 63 = .ok (.iload 7, 2) := by decide +kernel
theorem dX4_replayed_65 : decode cX4_replayed 65 = .ok (.iload 6, 2) := by decide +kernel
theorem dX4_replayed_67 : decode cX4_replayed 67 = .ok (.if_icmp .ge 36, 3) := by decide +kernel
theorem dX4_replayed_70 : decode cX4_replayed 70 = .ok (.aload 5, 2) := by decide +kernel
theorem dX4_replayed_72 : decode cX4_replayed 72 = .ok (.aload 4, 2) := by decide +kernel
theorem dX4_replayed_74 : decode cX4_replayed 74 = .ok (.aload_n 0, 1) := by decide +kernel
theorem dX4_replayed_75 : decode cX4_replayed 75 = .ok (.getfield 19, 3) := by decide +kernel
theorem dX4_replayed_78 : decode cX4_replayed 78 = .ok (.getfield 127, 3) := by decide +kernel
theorem dX4_replayed_81 : decode cX4_replayed 81 = .ok (.iload 6, 2) := by decide +kernel
theorem dX4_replayed_83 : decode cX4_replayed 83 = .ok (.isub, 1) := by decide +kernel
theorem dX4_replayed_84 : decode cX4_replayed 84 = .ok (.iload 7, 2) := by decide +kernel
theorem dX4_replayed_86 : decode cX4_replayed 86 = .ok (.iadd, 1) := by decide +kernel
theorem dX4_replayed_87 : decode cX4_replayed 87 = .ok (.invokevirtual 223, 3) := by decide +kernel
theorem dX4_replayed_90 : decode cX4_replayed 90 = .ok (.aload_n 0, 1) := by decide +kernel
theorem dX4_replayed_91 : decode cX4_replayed 91 = .ok (.getfield 23, 3) := by decide +kernel
theorem dX4_replayed_94 : decode cX4_replayed 94 = .ok (.invokevirtual 112, 3) := by decide +kernel
theorem dX4_replayed_97 : decode cX4_replayed 97 = .ok (.iinc 7 1, 3) := by decide +kernel
theorem dX4_replayed_100 : decode cX4_replayed 100 = .ok (.goto (-37), 3) := by decide +kernel
theorem dX4_replayed_103 : decode cX4_replayed 103 = .ok (.aload 5, 2) := by decide +kernel
theorem dX4_replayed_105 : decode cX4_replayed 105 = .ok (.areturn, 1) := by decide +kernel
theorem dX4_cut_0 : decode cX4_cut 0 = .ok (.iload_n 1, 1) := by decide +kernel
theorem dX4_cut_1 : decode cX4_cut 1 = .ok (.iconst 1, 1) := by decide +kernel
theorem dX4_cut_2 : decode cX4_cut 2 = .ok (.if_icmp .ge 7, 3) := by decide +kernel
theorem dX4_cut_5 : decode cX4_cut 5 = .ok (.iconst 0, 1) := by decide +kernel
theorem dX4_cut_6 : decode cX4_cut 6 = .ok (.goto 6, 3) := by decide +kernel
theorem dX4_cut_9 : decode cX4_cut 9 = .ok (.iload_n 0, 1) := by decide +kernel
theorem dX4_cut_10 : decode cX4_cut 10 = .ok (.iload_n 1, 1) := by decide +kernel
theorem dX4_cut_11 : decode cX4_cut 11 = .ok (.idiv, 1) := by decide +kernel
theorem dX4_cut_12 : decode cX4_cut 12 = .ok (.ireturn, 1) := by decide +kernel
theorem dX4_cutUp_0 : decode cX4_cutUp 0 = .ok (.iload_n 1, 1) := by decide +kernel
theorem dX4_cutUp_1 : decode cX4_cutUp 1 = .ok (.iconst 1, 1) := by decide +kernel
theorem dX4_cutUp_2 : decode cX4_cutUp 2 = .ok (.if_icmp .ge 7, 3) := by decide +kernel
theorem dX4_cutUp_5 : decode cX4_cutUp 5 = .ok (.iconst 0, 1) := by decide +kernel
theorem dX4_cutUp_6 : decode cX4_cutUp 6 = .ok (.goto 10, 3) := by decide +kernel
theorem dX4_cutUp_9 : decode cX4_cutUp 9 = .ok (.iload_n 0, 1) := by decide +kernel
theorem dX4_cutUp_10 : decode cX4_cutUp 10 = .ok (.iload_n 1, 1) := by decide +kernel
theorem dX4_cutUp_11 : decode cX4_cutUp 11 = .ok (.iadd, 1) := by decide +kernel
theorem dX4_cutUp_12 : decode cX4_cutUp 12 = .ok (.iconst 1, 1) := by decide +kernel
theorem dX4_cutUp_13 : decode cX4_cutUp 13 = .ok (.isub, 1) := by decide +kernel
theorem dX4_cutUp_14 : decode cX4_cutUp 14 = .ok (.iload_n 1, 1) := by decide +kernel
theorem dX4_cutUp_15 : decode cX4_cutUp 15 = .ok (.idiv, 1) := by decide +kernel
theorem dX4_cutUp_16 : decode cX4_cutUp 16 = .ok (.ireturn, 1) := by decide +kernel
theorem dJ9_abs_0f7a4_0 : decode cJ9_abs_0f7a4 0 = .ok (.iload_n 0, 1) := by decide +kernel
theorem dJ9_abs_0f7a4_1 : decode cJ9_abs_0f7a4 1 = .ok (.ifCond .ge 8, 3) := by decide +kernel
theorem dJ9_abs_0f7a4_4 : decode cJ9_abs_0f7a4 4 = .ok (.iload_n 0, 1) := by decide +kernel
theorem dJ9_abs_0f7a4_5 : decode cJ9_abs_0f7a4 5 = .ok (.ineg, 1) := by decide +kernel
theorem dJ9_abs_0f7a4_6 : decode cJ9_abs_0f7a4 6 = .ok (.goto 4, 3) := by decide +kernel
theorem dJ9_abs_0f7a4_9 : decode cJ9_abs_0f7a4 9 = .ok (.iload_n 0, 1) := by decide +kernel
theorem dJ9_abs_0f7a4_10 : decode cJ9_abs_0f7a4 10 = .ok (.ireturn, 1) := by decide +kernel
theorem dJ9_max_7cf53_0 : decode cJ9_max_7cf53 0 = .ok (.iload_n 0, 1) := by decide +kernel
theorem dJ9_max_7cf53_1 : decode cJ9_max_7cf53 1 = .ok (.iload_n 1, 1) := by decide +kernel
theorem dJ9_max_7cf53_2 : decode cJ9_max_7cf53 2 = .ok (.if_icmp .lt 7, 3) := by decide +kernel
theorem dJ9_max_7cf53_5 : decode cJ9_max_7cf53 5 = .ok (.iload_n 0, 1) := by decide +kernel
theorem dJ9_max_7cf53_6 : decode cJ9_max_7cf53 6 = .ok (.goto 4, 3) := by decide +kernel
theorem dJ9_max_7cf53_9 : decode cJ9_max_7cf53 9 = .ok (.iload_n 1, 1) := by decide +kernel
theorem dJ9_max_7cf53_10 : decode cJ9_max_7cf53 10 = .ok (.ireturn, 1) := by decide +kernel
theorem dJ9_min_7cf53_0 : decode cJ9_min_7cf53 0 = .ok (.iload_n 0, 1) := by decide +kernel
theorem dJ9_min_7cf53_1 : decode cJ9_min_7cf53 1 = .ok (.iload_n 1, 1) := by decide +kernel
theorem dJ9_min_7cf53_2 : decode cJ9_min_7cf53 2 = .ok (.if_icmp .gt 7, 3) := by decide +kernel
theorem dJ9_min_7cf53_5 : decode cJ9_min_7cf53 5 = .ok (.iload_n 0, 1) := by decide +kernel
theorem dJ9_min_7cf53_6 : decode cJ9_min_7cf53 6 = .ok (.goto 4, 3) := by decide +kernel
theorem dJ9_min_7cf53_9 : decode cJ9_min_7cf53 9 = .ok (.iload_n 1, 1) := by decide +kernel
theorem dJ9_min_7cf53_10 : decode cJ9_min_7cf53 10 = .ok (.ireturn, 1) := by decide +kernel
theorem dJ7_fill_53178_0 : decode cJ7_fill_53178 0 = .ok (.iconst 0, 1) := by decide +kernel
theorem dJ7_fill_53178_1 : decode cJ7_fill_53178 1 = .ok (.istore_n 2, 1) := by decide +kernel
theorem dJ7_fill_53178_2 : decode cJ7_fill_53178 2 = .ok (.aload_n 0, 1) := by decide +kernel
theorem dJ7_fill_53178_3 : decode cJ7_fill_53178 3 = .ok (.arraylength, 1) := by decide +kernel
theorem dJ7_fill_53178_4 : decode cJ7_fill_53178 4 = .ok (.istore_n 3, 1) := by decide +kernel
theorem dJ7_fill_53178_5 : decode cJ7_fill_53178 5 = .ok (.iload_n 2, 1) := by decide +kernel
theorem dJ7_fill_53178_6 : decode cJ7_fill_53178 6 = .ok (.iload_n 3, 1) := by decide +kernel
theorem dJ7_fill_53178_7 : decode cJ7_fill_53178 7 = .ok (.if_icmp .ge 13, 3) := by decide +kernel
theorem dJ7_fill_53178_10 : decode cJ7_fill_53178 10 = .ok (.aload_n 0, 1) := by decide +kernel
theorem dJ7_fill_53178_11 : decode cJ7_fill_53178 11 = .ok (.iload_n 2, 1) := by decide +kernel
theorem dJ7_fill_53178_12 : decode cJ7_fill_53178 12 = .ok (.iload_n 1, 1) := by decide +kernel
theorem dJ7_fill_53178_13 : decode cJ7_fill_53178 13 = .ok (.iastore, 1) := by decide +kernel
theorem dJ7_fill_53178_14 : decode cJ7_fill_53178 14 = .ok (.iinc 2 1, 3) := by decide +kernel
theorem dJ7_fill_53178_17 : decode cJ7_fill_53178 17 = .ok (.goto (-12), 3) := by decide +kernel
theorem dJ7_fill_53178_20 : decode cJ7_fill_53178 20 = .ok (.return_, 1) := by decide +kernel
