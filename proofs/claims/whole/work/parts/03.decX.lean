theorem dX0_init_0 : decode cX0_init 0 = .ok (.aload_n 0, 1) := by decide +kernel
theorem dX0_init_1 : decode cX0_init 1 = .ok (.invokespecial 3, 3) := by decide +kernel
theorem dX0_init_4 : decode cX0_init 4 = .ok (.aload_n 0, 1) := by decide +kernel
theorem dX0_init_5 : decode cX0_init 5 = .ok (.sipush 288, 3) := by decide +kernel
theorem dX0_init_8 : decode cX0_init 8 = .ok (.newarray .int, 2) := by decide +kernel
theorem dX0_init_10 : decode cX0_init 10 = .ok (.putfield 11, 3) := by decide +kernel
theorem dX0_init_13 : decode cX0_init 13 = .ok (.aload_n 0, 1) := by decide +kernel
theorem dX0_init_14 : decode cX0_init 14 = .ok (.iconst 0, 1) := by decide +kernel
theorem dX0_init_15 : decode cX0_init 15 = .ok (.putfield 17, 3) := by decide +kernel
theorem dX0_init_18 : decode cX0_init 18 = .ok (.aload_n 0, 1) := by decide +kernel
theorem dX0_init_19 : decode cX0_init 19 = .ok (.iconst 0, 1) := by decide +kernel
theorem dX0_init_20 : decode cX0_init 20 = .ok (.putfield 21, 3) := by decide +kernel
theorem dX0_init_23 : decode cX0_init 23 = .ok (.return_, 1) := by decide +kernel
theorem dX0_clear_0 : decode cX0_clear 0 = .ok (.aload_n 0, 1) := by decide +kernel
theorem dX0_clear_1 : decode cX0_clear 1 = .ok (.iconst 0, 1) := by decide +kernel
theorem dX0_clear_2 : decode cX0_clear 2 = .ok (.putfield 17, 3) := by decide +kernel
theorem dX0_clear_5 : decode cX0_clear 5 = .ok (.aload_n 0, 1) := by decide +kernel
theorem dX0_clear_6 : decode cX0_clear 6 = .ok (.iconst 0, 1) := by decide +kernel
theorem dX0_clear_7 : decode cX0_clear 7 = .ok (.putfield 21, 3) := by decide +kernel
theorem dX0_clear_10 : decode cX0_clear 10 = .ok (.return_, 1) := by decide +kernel
theorem dX0_add_0 : decode cX0_add 0 = .ok (.aload_n 0, 1) := by decide +kernel
theorem dX0_add_1 : decode cX0_add 1 = .ok (.getfield 21, 3) := by decide +kernel
theorem dX0_add_4 : decode cX0_add 4 = .ok (.bipush 16, 2) := by decide +kernel
theorem dX0_add_6 : decode cX0_add 6 = .ok (.if_icmp .ne 26, 3) := by decide +kernel
theorem dX0_add_9 : decode cX0_add 9 = .ok (.aload_n 0, 1) := by decide +kernel
theorem dX0_add_10 : decode cX0_add 10 = .ok (.aload_n 0, 1) := by decide +kernel
theorem dX0_add_11 : decode cX0_add 11 = .ok (.getfield 17, 3) := by decide +kernel
theorem dX0_add_14 : decode cX0_add 14 = .ok (.iconst 1, 1) := by decide +kernel
theorem dX0_add_15 : decode cX0_add 15 = .ok (.iadd, 1) := by decide +kernel
theorem dX0_add_16 : decode cX0_add 16 = .ok (.bipush 16, 2) := by decide +kernel
theorem dX0_add_18 : decode cX0_add 18 = .ok (.irem, 1) := by decide +kernel
theorem dX0_add_19 : decode cX0_add 19 = .ok (.putfield 17, 3) := by decide +kernel
theorem dX0_add_22 : decode cX0_add 22 = .ok (.aload_n 0, 1) := by decide +kernel
theorem dX0_add_23 : decode cX0_add 23 = .ok (.dup, 1) := by decide +kernel
theorem dX0_add_24 : decode cX0_add 24 = .ok (.getfield 21, 3) := by decide +kernel
theorem dX0_add_27 : decode cX0_add 27 = .ok (.iconst 1, 1) := by decide +kernel
theorem dX0_add_28 : decode cX0_add 28 = .ok (.isub, 1) := by decide +kernel
theorem dX0_add_29 : decode cX0_add 29 = .ok (.putfield 21, 3) := by decide +kernel
theorem dX0_add_32 : decode cX0_add 32 = .ok (.aload_n 1, 1) := by decide +kernel
theorem dX0_add_33 : decode cX0_add 33 = .ok (.aload_n 0, 1) := by decide +kernel
theorem dX0_add_34 : decode cX0_add 34 = .ok (.getfield 11, 3) := by decide +kernel
theorem dX0_add_37 : decode cX0_add 37 = .ok (.aload_n 0, 1) := by decide +kernel
theorem dX0_add_38 : decode cX0_add 38 = .ok (.getfield 17, 3) := by decide +kernel
theorem dX0_add_41 : decode cX0_add 41 = .ok (.aload_n 0, 1) := by decide +kernel
theorem dX0_add_42 : decode cX0_add 42 = .ok (.getfield 21, 3) := by decide +kernel
theorem dX0_add_45 : decode cX0_add 45 = .ok (.iadd, 1) := by decide +kernel
theorem dX0_add_46 : decode cX0_add 46 = .ok (.bipush 16, 2) := by decide +kernel
theorem dX0_add_48 : decode cX0_add 48 = .ok (.irem, 1) := by decide +kernel
theorem dX0_add_49 : decode cX0_add 49 = .ok (.bipush 18, 2) := by decide +kernel
theorem dX0_add_51 : decode cX0_add 51 = .ok (.imul, 1) := by decide +kernel
theorem dX0_add_52 : decode cX0_add 52 = .ok (.invokevirtual 24, 3) := by decide +kernel
theorem dX0_add_55 : decode cX0_add 55 = .ok (.aload_n 0, 1) := by decide +kernel
theorem dX0_add_56 : decode cX0_add 56 = .ok (.dup, 1) := by decide +kernel
theorem dX0_add_57 : decode cX0_add 57 = .ok (.getfield 21, 3) := by decide +kernel
theorem dX0_add_60 : decode cX0_add 60 = .ok (.iconst 1, 1) := by decide +kernel
theorem dX0_add_61 : decode cX0_add 61 = .ok (.iadd, 1) := by decide +kernel
theorem dX0_add_62 : decode cX0_add 62 = .ok (.putfield 21, 3) := by decide +kernel
theorem dX0_add_65 : decode cX0_add 65 = .ok (.return_, 1) := by decide +kernel
theorem dX0_takeBack_0 : decode cX0_takeBack 0 = .ok (.aload_n 0, 1) := by decide +kernel
theorem dX0_takeBack_1 : decode cX0_takeBack 1 = .ok (.getfield 21, 3) := by decide +kernel
theorem dX0_takeBack_4 : decode cX0_takeBack 4 = .ok (.ifCond .le 36, 3) := by decide +kernel
theorem dX0_takeBack_7 : decode cX0_takeBack 7 = .ok (.aload_n 0, 1) := by decide +kernel
theorem dX0_takeBack_8 : decode cX0_takeBack 8 = .ok (.dup, 1) := by decide +kernel
theorem dX0_takeBack_9 : decode cX0_takeBack 9 = .ok (.getfield 21, 3) := by decide +kernel
theorem dX0_takeBack_12 : decode cX0_takeBack 12 = .ok (.iconst 1, 1) := by decide +kernel
theorem dX0_takeBack_13 : decode cX0_takeBack 13 = .ok (.isub, 1) := by decide +kernel
theorem dX0_takeBack_14 : decode cX0_takeBack 14 = .ok (.putfield 21, 3) := by decide +kernel
theorem dX0_takeBack_17 : decode cX0_takeBack 17 = .ok (.aload_n 1, 1) := by decide +kernel
theorem dX0_takeBack_18 : decode cX0_takeBack 18 = .ok (.aload_n 0, 1) := by decide +kernel
theorem dX0_takeBack_19 : decode cX0_takeBack 19 = .ok (.getfield 11, 3) := by decide +kernel
theorem dX0_takeBack_22 : decode cX0_takeBack 22 = .ok (.aload_n 0, 1) := by decide +kernel
theorem dX0_takeBack_23 : decode cX0_takeBack 23 = .ok (.getfield 17, 3) := by decide +kernel
theorem dX0_takeBack_26 : decode cX0_takeBack 26 = .ok (.aload_n 0, 1) := by decide +kernel
theorem dX0_takeBack_27 : decode cX0_takeBack 27 = .ok (.getfield 21, 3) := by decide +kernel
theorem dX0_takeBack_30 : decode cX0_takeBack 30 = .ok (.iadd, 1) := by decide +kernel
theorem dX0_takeBack_31 : decode cX0_takeBack 31 = .ok (.bipush 16, 2) := by decide +kernel
theorem dX0_takeBack_33 : decode cX0_takeBack 33 = .ok (.irem, 1) := by decide +kernel
theorem dX0_takeBack_34 : decode cX0_takeBack 34 = .ok (.bipush 18, 2) := by decide +kernel
theorem dX0_takeBack_36 : decode cX0_takeBack 36 = .ok (.imul, 1) := by decide +kernel
theorem dX0_takeBack_37 : decode cX0_takeBack 37 = .ok (.invokevirtual 28, 3) := by decide +kernel
theorem dX0_takeBack_40 : decode cX0_takeBack 40 = .ok (.return_, 1) := by decide +kernel
theorem dX1_init_0 : decode cX1_init 0 = .ok (.aload_n 0, 1) := by decide +kernel
theorem dX1_init_1 : decode cX1_init 1 = .ok (.invokespecial 3, 3) := by decide +kernel
theorem dX1_init_4 : decode cX1_init 4 = .ok (.aload_n 0, 1) := by decide +kernel
theorem dX1_init_5 : decode cX1_init 5 = .ok (.bipush 6, 2) := by decide +kernel
theorem dX1_init_7 : decode cX1_init 7 = .ok (.newarray .int, 2) := by decide +kernel
theorem dX1_init_9 : decode cX1_init 9 = .ok (.putfield 9, 3) := by decide +kernel
theorem dX1_init_12 : decode cX1_init 12 = .ok (.aload_n 0, 1) := by decide +kernel
theorem dX1_init_13 : decode cX1_init 13 = .ok (.iconst 0, 1) := by decide +kernel
theorem dX1_init_14 : decode cX1_init 14 = .ok (.putfield 15, 3) := by decide +kernel
theorem dX1_init_17 : decode cX1_init 17 = .ok (.return_, 1) := by decide +kernel
theorem dX1_add_0 : decode cX1_add 0 = .ok (.aload_n 0, 1) := by decide +kernel
theorem dX1_add_1 : decode cX1_add 1 = .ok (.getfield 15, 3) := by decide +kernel
theorem dX1_add_4 : decode cX1_add 4 = .ok (.bipush 6, 2) := by decide +kernel
theorem dX1_add_6 : decode cX1_add 6 = .ok (.if_icmp .lt 6, 3) := by decide +kernel
theorem dX1_add_9 : decode cX1_add 9 = .ok (.bipush (-4), 2) := by decide +kernel
theorem dX1_add_11 : decode cX1_add 11 = .ok (.ireturn, 1) := by decide +kernel
theorem dX1_add_12 : decode cX1_add 12 = .ok (.aload_n 0, 1) := by decide +kernel
theorem dX1_add_13 : decode cX1_add 13 = .ok (.getfield 9, 3) := by decide +kernel
theorem dX1_add_16 : decode cX1_add 16 = .ok (.aload_n 0, 1) := by decide +kernel
theorem dX1_add_17 : decode cX1_add 17 = .ok (.getfield 15, 3) := by decide +kernel
theorem dX1_add_20 : decode cX1_add 20 = .ok (.iload_n 1, 1) := by decide +kernel
theorem dX1_add_21 : decode cX1_add 21 = .ok (.iastore, 1) := by decide +kernel
theorem dX1_add_22 : decode cX1_add 22 = .ok (.aload_n 0, 1) := by decide +kernel
theorem dX1_add_23 : decode cX1_add 23 = .ok (.dup, 1) := by decide +kernel
theorem dX1_add_24 : decode cX1_add 24 = .ok (.getfield 15, 3) := by decide +kernel
theorem dX1_add_27 : decode cX1_add 27 = .ok (.iconst 1, 1) := by decide +kernel
theorem dX1_add_28 : decode cX1_add 28 = .ok (.iadd, 1) := by decide +kernel
theorem dX1_add_29 : decode cX1_add 29 = .ok (.putfield 15, 3) := by decide +kernel
theorem dX1_add_32 : decode cX1_add 32 = .ok (.aload_n 0, 1) := by decide +kernel
theorem dX1_add_33 : decode cX1_add 33 = .ok (.getfield 15, 3) := by decide +kernel
theorem dX1_add_36 : decode cX1_add 36 = .ok (.ireturn, 1) := by decide +kernel
theorem dX1_clear_0 : decode cX1_clear 0 = .ok (.aload_n 0, 1) := by decide +kernel
theorem dX1_clear_1 : decode cX1_clear 1 = .ok (.getfield 15, 3) := by decide +kernel
theorem dX1_clear_4 : decode cX1_clear 4 = .ok (.istore_n 1, 1) := by decide +kernel
theorem dX1_clear_5 : decode cX1_clear 5 = .ok (.aload_n 0, 1) := by decide +kernel
theorem dX1_clear_6 : decode cX1_clear 6 = .ok (.iconst 0, 1) := by decide +kernel
theorem dX1_clear_7 : decode cX1_clear 7 = .ok (.putfield 15, 3) := by decide +kernel
theorem dX1_clear_10 : decode cX1_clear 10 = .ok (.iload_n 1, 1) := by decide +kernel
theorem dX1_clear_11 : decode cX1_clear 11 = .ok (.ireturn, 1) := by decide +kernel
theorem dX1_origins_0 : decode cX1_origins 0 = .ok (.iconst 0, 1) := by decide +kernel
theorem dX1_origins_1 : decode cX1_origins 1 = .ok (.istore_n 3, 1) := by decide +kernel
theorem dX1_origins_2 : decode cX1_origins 2 = .ok (.iconst 0, 1) := by decide +kernel
theorem dX1_origins_3 : decode cX1_origins 3 = .ok (.istore 4, 2) := by decide +kernel
theorem dX1_origins_5 : decode cX1_origins 5 = .ok (.aload_n 0, 1) := by decide +kernel
theorem dX1_origins_6 : decode cX1_origins 6 = .ok (.getfield 15, 3) := by decide +kernel
theorem dX1_origins_9 : decode cX1_origins 9 = .ok (.iload_n 2, 1) := by decide +kernel
theorem dX1_origins_10 : decode cX1_origins 10 = .ok (.if_icmp .gt 37, 3) := by decide +kernel
theorem dX1_origins_13 : decode cX1_origins 13 = .ok (.iload 4, 2) := by decide +kernel
theorem dX1_origins_15 : decode cX1_origins 15 = .ok (.iload_n 2, 1) := by decide +kernel
theorem dX1_origins_16 : decode cX1_origins 16 = .ok (.iadd, 1) := by decide +kernel
theorem dX1_origins_17 : decode cX1_origins 17 = .ok (.aload_n 1, 1) := by decide +kernel
theorem dX1_origins_18 : decode cX1_origins 18 = .ok (.getfield 19, 3) := by decide +kernel
theorem dX1_origins_21 : decode cX1_origins 21 = .ok (.if_icmp .gt 26, 3) := by decide +kernel
theorem dX1_origins_24 : decode cX1_origins 24 = .ok (.aload_n 0, 1) := by decide +kernel
theorem dX1_origins_25 : decode cX1_origins 25 = .ok (.aload_n 1, 1) := by decide +kernel
theorem dX1_origins_26 : decode cX1_origins 26 = .ok (.iload 4, 2) := by decide +kernel
theorem dX1_origins_28 : decode cX1_origins 28 = .ok (.invokevirtual 24, 3) := by decide +kernel
theorem dX1_origins_31 : decode cX1_origins 31 = .ok (.ifCond .eq 10, 3) := by decide +kernel
theorem dX1_origins_34 : decode cX1_origins 34 = .ok (.iload_n 3, 1) := by decide +kernel
theorem dX1_origins_35 : decode cX1_origins 35 = .ok (.iconst 1, 1) := by decide +kernel
theorem dX1_origins_36 : decode cX1_origins 36 = .ok (.iload 4, 2) := by decide +kernel
theorem dX1_origins_38 : decode cX1_origins 38 = .ok (.ishl, 1) := by decide +kernel
theorem dX1_origins_39 : decode cX1_origins 39 = .ok (.ior, 1) := by decide +kernel
theorem dX1_origins_40 : decode cX1_origins 40 = .ok (.istore_n 3, 1) := by decide +kernel
theorem dX1_origins_41 : decode cX1_origins 41 = .ok (.iinc 4 1, 3) := by decide +kernel
theorem dX1_origins_44 : decode cX1_origins 44 = .ok (.goto (-39), 3) := by decide +kernel
theorem dX1_origins_47 : decode cX1_origins 47 = .ok (.iload_n 3, 1) := by decide +kernel
theorem dX1_origins_48 : decode cX1_origins 48 = .ok (.ireturn, 1) := by decide +kernel
theorem dX1_canBeFrom_0 : decode cX1_canBeFrom 0 = .ok (.iconst 0, 1) := by decide +kernel
theorem dX1_canBeFrom_1 : decode cX1_canBeFrom 1 = .ok (.istore_n 3, 1) := by decide +kernel
theorem dX1_canBeFrom_2 : decode cX1_canBeFrom 2 = .ok (.iload_n 3, 1) := by decide +kernel
theorem dX1_canBeFrom_3 : decode cX1_canBeFrom 3 = .ok (.aload_n 0, 1) := by decide +kernel
theorem dX1_canBeFrom_4 : decode cX1_canBeFrom 4 = .ok (.getfield 15, 3) := by decide +kernel
theorem dX1_canBeFrom_7 : decode cX1_canBeFrom 7 = .ok (.if_icmp .ge 27, 3) := by decide +kernel
theorem dX1_canBeFrom_10 : decode cX1_canBeFrom 10 = .ok (.aload_n 1, 1) := by decide +kernel
theorem dX1_canBeFrom_11 : decode cX1_canBeFrom 11 = .ok (.iload_n 2, 1) := by decide +kernel
theorem dX1_canBeFrom_12 : decode cX1_canBeFrom 12 = .ok (.iload_n 3, 1) := by decide +kernel
theorem dX1_canBeFrom_13 : decode cX1_canBeFrom 13 = .ok (.iadd, 1) := by decide +kernel
theorem dX1_canBeFrom_14 : decode cX1_canBeFrom 14 = .ok (.invokevirtual 28, 3) := by decide +kernel
theorem dX1_canBeFrom_17 : decode cX1_canBeFrom 17 = .ok (.aload_n 0, 1) := by decide +kernel
theorem dX1_canBeFrom_18 : decode cX1_canBeFrom 18 = .ok (.getfield 9, 3) := by decide +kernel
theorem dX1_canBeFrom_21 : decode cX1_canBeFrom 21 = .ok (.iload_n 3, 1) := by decide +kernel
theorem dX1_canBeFrom_22 : decode cX1_canBeFrom 22 = .ok (.iaload, 1) := by decide +kernel
theorem dX1_canBeFrom_23 : decode cX1_canBeFrom 23 = .ok (.if_icmp .eq 5, 3) := by decide +kernel
theorem dX1_canBeFrom_26 : decode cX1_canBeFrom 26 = .ok (.iconst 0, 1) := by decide +kernel
theorem dX1_canBeFrom_27 : decode cX1_canBeFrom 27 = .ok (.ireturn, 1) := by decide +kernel
theorem dX1_canBeFrom_28 : decode cX1_canBeFrom 28 = .ok (.iinc 3 1, 3) := by decide +kernel
theorem dX1_canBeFrom_31 : decode cX1_canBeFrom 31 = .ok (.goto (-29), 3) := by decide +kernel
theorem dX1_canBeFrom_34 : decode cX1_canBeFrom 34 = .ok (.iconst 1, 1) := by decide +kernel
theorem dX1_canBeFrom_35 : decode cX1_canBeFrom 35 = .ok (.ireturn, 1) := by decide +kernel
theorem dX2_init_0 : decode cX2_init 0 = .ok (.aload_n 0, 1) := by decide +kernel
theorem dX2_init_1 : decode cX2_init 1 = .ok (.invokespecial 3, 3) := by decide +kernel
theorem dX2_init_4 : decode cX2_init 4 = .ok (.aload_n 0, 1) := by decide +kernel
theorem dX2_init_5 : decode cX2_init 5 = .ok (.iconst 4, 1) := by decide +kernel
theorem dX2_init_6 : decode cX2_init 6 = .ok (.newarray .int, 2) := by decide +kernel
theorem dX2_init_8 : decode cX2_init 8 = .ok (.putfield 9, 3) := by decide +kernel
theorem dX2_init_11 : decode cX2_init 11 = .ok (.aload_n 0, 1) := by decide +kernel
theorem dX2_init_12 : decode cX2_init 12 = .ok (.iconst 4, 1) := by decide +kernel
theorem dX2_init_13 : decode cX2_init 13 = .ok (.newarray .int, 2) := by decide +kernel
theorem dX2_init_15 : decode cX2_init 15 = .ok (.putfield 15, 3) := by decide +kernel
theorem dX2_init_18 : decode cX2_init 18 = .ok (.aload_n 0, 1) := by decide +kernel
theorem dX2_init_19 : decode cX2_init 19 = .ok (.iconst 4, 1) := by decide +kernel
theorem dX2_init_20 : decode cX2_init 20 = .ok (.newarray .int, 2) := by decide +kernel
theorem dX2_init_22 : decode cX2_init 22 = .ok (.putfield 18, 3) := by decide +kernel
theorem dX2_init_25 : decode cX2_init 25 = .ok (.aload_n 0, 1) := by decide +kernel
theorem dX2_init_26 : decode cX2_init 26 = .ok (.iconst 4, 1) := by decide +kernel
theorem dX2_init_27 : decode cX2_init 27 = .ok (.newarray .int, 2) := by decide +kernel
theorem dX2_init_29 : decode cX2_init 29 = .ok (.putfield 21, 3) := by decide +kernel
theorem dX2_init_32 : decode cX2_init 32 = .ok (.aload_n 0, 1) := by decide +kernel
theorem dX2_init_33 : decode cX2_init 33 = .ok (.iconst 0, 1) := by decide +kernel
theorem dX2_init_34 : decode cX2_init 34 = .ok (.putfield 24, 3) := by decide +kernel
theorem dX2_init_37 : decode cX2_init 37 = .ok (.aload_n 0, 1) := by decide +kernel
theorem dX2_init_38 : decode cX2_init 38 = .ok (.iconst 0, 1) := by decide +kernel
theorem dX2_init_39 : decode cX2_init 39 = .ok (.putfield 28, 3) := by decide +kernel
theorem dX2_init_42 : decode cX2_init 42 = .ok (.return_, 1) := by decide +kernel
theorem dX2_begin_0 : decode cX2_begin 0 = .ok (.iconst 0, 1) := by decide +kernel
theorem dX2_begin_1 : decode cX2_begin 1 = .ok (.istore_n 2, 1) := by decide +kernel
theorem dX2_begin_2 : decode cX2_begin 2 = .ok (.iload_n 2, 1) := by decide +kernel
theorem dX2_begin_3 : decode cX2_begin 3 = .ok (.iconst 4, 1) := by decide +kernel
theorem dX2_begin_4 : decode cX2_begin 4 = .ok (.if_icmp .ge 40, 3) := by decide +kernel
theorem dX2_begin_7 : decode cX2_begin 7 = .ok (.aload_n 0, 1) := by decide +kernel
theorem dX2_begin_8 : decode cX2_begin 8 = .ok (.getfield 9, 3) := by decide +kernel
theorem dX2_begin_11 : decode cX2_begin 11 = .ok (.iload_n 2, 1) := by decide +kernel
theorem dX2_begin_12 : decode cX2_begin 12 = .ok (.aload_n 1, 1) := by decide +kernel
theorem dX2_begin_13 : decode cX2_begin 13 = .ok (.getfield 31, 3) := by decide +kernel
theorem dX2_begin_16 : decode cX2_begin 16 = .ok (.iload_n 2, 1) := by decide +kernel
theorem dX2_begin_17 : decode cX2_begin 17 = .ok (.iaload, 1) := by decide +kernel
theorem dX2_begin_18 : decode cX2_begin 18 = .ok (.iastore, 1) := by decide +kernel
theorem dX2_begin_19 : decode cX2_begin 19 = .ok (.aload_n 0, 1) := by decide +kernel
theorem dX2_begin_20 : decode cX2_begin 20 = .ok (.getfield 15, 3) := by decide +kernel
theorem dX2_begin_23 : decode cX2_begin 23 = .ok (.iload_n 2, 1) := by decide +kernel
theorem dX2_begin_24 : decode cX2_begin 24 = .ok (.aload_n 1, 1) := by decide +kernel
theorem dX2_begin_25 : decode cX2_begin 25 = .ok (.getfield 36, 3) := by decide +kernel
theorem dX2_begin_28 : decode cX2_begin 28 = .ok (.iload_n 2, 1) := by decide +kernel
theorem dX2_begin_29 : decode cX2_begin 29 = .ok (.iaload, 1) := by decide +kernel
theorem dX2_begin_30 : decode cX2_begin 30 = .ok (.iastore, 1) := by decide +kernel
theorem dX2_begin_31 : decode cX2_begin 31 = .ok (.aload_n 0, 1) := by decide +kernel
theorem dX2_begin_32 : decode cX2_begin 32 = .ok (.getfield 18, 3) := by decide +kernel
theorem dX2_begin_35 : decode cX2_begin 35 = .ok (.iload_n 2, 1) := by decide +kernel
theorem dX2_begin_36 : decode cX2_begin 36 = .ok (.iconst 0, 1) := by decide +kernel
theorem dX2_begin_37 : decode cX2_begin 37 = .ok (.iastore, 1) := by decide +kernel
theorem dX2_begin_38 : decode cX2_begin 38 = .ok (.iinc 2 1, 3) := by decide +kernel
theorem dX2_begin_41 : decode cX2_begin 41 = .ok (.goto (-39), 3) := by decide +kernel
theorem dX2_begin_44 : decode cX2_begin 44 = .ok (.iconst 0, 1) := by decide +kernel
theorem dX2_begin_45 : decode cX2_begin 45 = .ok (.istore_n 2, 1) := by decide +kernel
theorem dX2_begin_46 : decode cX2_begin 46 = .ok (.iload_n 2, 1) := by decide +kernel
theorem dX2_begin_47 : decode cX2_begin 47 = .ok (.iconst 4, 1) := by decide +kernel
theorem dX2_begin_48 : decode cX2_begin 48 = .ok (.if_icmp .ge 16, 3) := by decide +kernel
theorem dX2_begin_51 : decode cX2_begin 51 = .ok (.aload_n 0, 1) := by decide +kernel
theorem dX2_begin_52 : decode cX2_begin 52 = .ok (.getfield 21, 3) := by decide +kernel
theorem dX2_begin_55 : decode cX2_begin 55 = .ok (.iload_n 2, 1) := by decide +kernel
theorem dX2_begin_56 : decode cX2_begin 56 = .ok (.iconst 0, 1) := by decide +kernel
theorem dX2_begin_57 : decode cX2_begin 57 = .ok (.iastore, 1) := by decide +kernel
theorem dX2_begin_58 : decode cX2_begin 58 = .ok (.iinc 2 1, 3) := by decide +kernel
theorem dX2_begin_61 : decode cX2_begin 61 = .ok (.goto (-15), 3) := by decide +kernel
theorem dX2_begin_64 : decode cX2_begin 64 = .ok (.aload_n 0, 1) := by decide +kernel
theorem dX2_begin_65 : decode cX2_begin 65 = .ok (.iconst 0, 1) := by decide +kernel
theorem dX2_begin_66 : decode cX2_begin 66 = .ok (.putfield 24, 3) := by decide +kernel
theorem dX2_begin_69 : decode cX2_begin 69 = .ok (.aload_n 0, 1) := by decide +kernel
theorem dX2_begin_70 : decode cX2_begin 70 = .ok (.iconst 0, 1) := by decide +kernel
theorem dX2_begin_71 : decode cX2_begin 71 = .ok (.putfield 28, 3) := by decide +kernel
theorem dX2_begin_74 : decode cX2_begin 74 = .ok (.return_, 1) := by decide +kernel
theorem dX2_copy_0 : decode cX2_copy 0 = .ok (.iconst 0, 1) := by decide +kernel
theorem dX2_copy_1 : decode cX2_copy 1 = .ok (.istore_n 2, 1) := by decide +kernel
theorem dX2_copy_2 : decode cX2_copy 2 = .ok (.iload_n 2, 1) := by decide +kernel
theorem dX2_copy_3 : decode cX2_copy 3 = .ok (.iconst 4, 1) := by decide +kernel
theorem dX2_copy_4 : decode cX2_copy 4 = .ok (.if_icmp .ge 45, 3) := by decide +kernel
theorem dX2_copy_7 : decode cX2_copy 7 = .ok (.aload_n 0, 1) := by decide +kernel
theorem dX2_copy_8 : decode cX2_copy 8 = .ok (.getfield 9, 3) := by decide +kernel
theorem dX2_copy_11 : decode cX2_copy 11 = .ok (.iload_n 2, 1) := by decide +kernel
theorem dX2_copy_12 : decode cX2_copy 12 = .ok (.aload_n 1, 1) := by decide +kernel
theorem dX2_copy_13 : decode cX2_copy 13 = .ok (.getfield 9, 3) := by decide +kernel
theorem dX2_copy_16 : decode cX2_copy 16 = .ok (.iload_n 2, 1) := by decide +kernel
theorem dX2_copy_17 : decode cX2_copy 17 = .ok (.iaload, 1) := by decide +kernel
theorem dX2_copy_18 : decode cX2_copy 18 = .ok (.iastore, 1) := by decide +kernel
theorem dX2_copy_19 : decode cX2_copy 19 = .ok (.aload_n 0, 1) := by decide +kernel
theorem dX2_copy_20 : decode cX2_copy 20 = .ok (.getfield 15, 3) := by decide +kernel
theorem dX2_copy_23 : decode cX2_copy 23 = .ok (.iload_n 2, 1) := by decide +kernel
theorem dX2_copy_24 : decode cX2_copy 24 = .ok (.aload_n 1, 1) := by decide +kernel
theorem dX2_copy_25 : decode cX2_copy 25 = .ok (.getfield 15, 3) := by decide +kernel
theorem dX2_copy_28 : decode cX2_copy 28 = .ok (.iload_n 2, 1) := by decide +kernel
theorem dX2_copy_29 : decode cX2_copy 29 = .ok (.iaload, 1) := by decide +kernel
theorem dX2_copy_30 : decode cX2_copy 30 = .ok (.iastore, 1) := by decide +kernel
theorem dX2_copy_31 : decode cX2_copy 31 = .ok (.aload_n 0, 1) := by decide +kernel
theorem dX2_copy_32 : decode cX2_copy 32 = .ok (.getfield 18, 3) := by decide +kernel
theorem dX2_copy_35 : decode cX2_copy 35 = .ok (.iload_n 2, 1) := by decide +kernel
theorem dX2_copy_36 : decode cX2_copy 36 = .ok (.aload_n 1, 1) := by decide +kernel
theorem dX2_copy_37 : decode cX2_copy 37 = .ok (.getfield 18, 3) := by decide +kernel
theorem dX2_copy_40 : decode cX2_copy 40 = .ok (.iload_n 2, 1) := by decide +kernel
theorem dX2_copy_41 : decode cX2_copy 41 = .ok (.iaload, 1) := by decide +kernel
theorem dX2_copy_42 : decode cX2_copy 42 = .ok (.iastore, 1) := by decide +kernel
theorem dX2_copy_43 : decode cX2_copy 43 = .ok (.iinc 2 1, 3) := by decide +kernel
theorem dX2_copy_46 : decode cX2_copy 46 = .ok (.goto (-44), 3) := by decide +kernel
theorem dX2_copy_49 : decode cX2_copy 49 = .ok (.iconst 0, 1) := by decide +kernel
theorem dX2_copy_50 : decode cX2_copy 50 = .ok (.istore_n 2, 1) := by decide +kernel
theorem dX2_copy_51 : decode cX2_copy 51 = .ok (.iload_n 2, 1) := by decide +kernel
theorem dX2_copy_52 : decode cX2_copy 52 = .ok (.iconst 4, 1) := by decide +kernel
theorem dX2_copy_53 : decode cX2_copy 53 = .ok (.if_icmp .ge 21, 3) := by decide +kernel
theorem dX2_copy_56 : decode cX2_copy 56 = .ok (.aload_n 0, 1) := by decide +kernel
theorem dX2_copy_57 : decode cX2_copy 57 = .ok (.getfield 21, 3) := by decide +kernel
theorem dX2_copy_60 : decode cX2_copy 60 = .ok (.iload_n 2, 1) := by decide +kernel
theorem dX2_copy_61 : decode cX2_copy 61 = .ok (.aload_n 1, 1) := by decide +kernel
theorem dX2_copy_62 : decode cX2_copy 62 = .ok (.getfield 21, 3) := by decide +kernel
theorem dX2_copy_65 : decode cX2_copy 65 = .ok (.iload_n 2, 1) := by decide +kernel
theorem dX2_copy_66 : decode cX2_copy 66 = .ok (.iaload, 1) := by decide +kernel
theorem dX2_copy_67 : decode cX2_copy 67 = .ok (.iastore, 1) := by decide +kernel
theorem dX2_copy_68 : decode cX2_copy 68 = .ok (.iinc 2 1, 3) := by decide +kernel
theorem dX2_copy_71 : decode cX2_copy 71 = .ok (.goto (-20), 3) := by decide +kernel
theorem dX2_copy_74 : decode cX2_copy 74 = .ok (.aload_n 0, 1) := by decide +kernel
theorem dX2_copy_75 : decode cX2_copy 75 = .ok (.aload_n 1, 1) := by decide +kernel
theorem dX2_copy_76 : decode cX2_copy 76 = .ok (.getfield 24, 3) := by decide +kernel
theorem dX2_copy_79 : decode cX2_copy 79 = .ok (.putfield 24, 3) := by decide +kernel
theorem dX2_copy_82 : decode cX2_copy 82 = .ok (.aload_n 0, 1) := by decide +kernel
theorem dX2_copy_83 : decode cX2_copy 83 = .ok (.aload_n 1, 1) := by decide +kernel
theorem dX2_copy_84 : decode cX2_copy 84 = .ok (.getfield 28, 3) := by decide +kernel
theorem dX2_copy_87 : decode cX2_copy 87 = .ok (.putfield 28, 3) := by decide +kernel
theorem dX2_copy_90 : decode cX2_copy 90 = .ok (.return_, 1) := by decide +kernel
theorem dX2_saveTo_0 : decode cX2_saveTo 0 = .ok (.iload_n 2, 1) := by decide +kernel
theorem dX2_saveTo_1 : decode cX2_saveTo 1 = .ok (.ifCond .lt 12, 3) := by decide +kernel
theorem dX2_saveTo_4 : decode cX2_saveTo 4 = .ok (.iload_n 2, 1) := by decide +kernel
theorem dX2_saveTo_5 : decode cX2_saveTo 5 = .ok (.bipush 18, 2) := by decide +kernel
theorem dX2_saveTo_7 : decode cX2_saveTo 7 = .ok (.iadd, 1) := by decide +kernel
theorem dX2_saveTo_8 : decode cX2_saveTo 8 = .ok (.aload_n 1, 1) := by decide +kernel
theorem dX2_saveTo_9 : decode cX2_saveTo 9 = .ok (.arraylength, 1) := by decide +kernel
theorem dX2_saveTo_10 : decode cX2_saveTo 10 = .ok (.if_icmp .le 4, 3) := by decide +kernel
theorem dX2_saveTo_13 : decode cX2_saveTo 13 = .ok (.return_, 1) := by decide +kernel
theorem dX2_saveTo_14 : decode cX2_saveTo 14 = .ok (.iconst 0, 1) := by decide +kernel
theorem dX2_saveTo_15 : decode cX2_saveTo 15 = .ok (.istore_n 3, 1) := by decide +kernel
theorem dX2_saveTo_16 : decode cX2_saveTo 16 = .ok (.iload_n 3, 1) := by decide +kernel
theorem dX2_saveTo_17 : decode cX2_saveTo 17 = .ok (.iconst 4, 1) := by decide +kernel
theorem dX2_saveTo_18 : decode cX2_saveTo 18 = .ok (.if_icmp .ge 52, 3) := by decide +kernel
theorem dX2_saveTo_21 : decode cX2_saveTo 21 = .ok (.aload_n 1, 1) := by decide +kernel
theorem dX2_saveTo_22 : decode cX2_saveTo 22 = .ok (.iload_n 2, 1) := by decide +kernel
theorem dX2_saveTo_23 : decode cX2_saveTo 23 = .ok (.iconst 3, 1) := by decide +kernel
theorem dX2_saveTo_24 : decode cX2_saveTo 24 = .ok (.iload_n 3, 1) := by decide +kernel
theorem dX2_saveTo_25 : decode cX2_saveTo 25 = .ok (.imul, 1) := by decide +kernel
theorem dX2_saveTo_26 : decode cX2_saveTo 26 = .ok (.iadd, 1) := by decide +kernel
theorem dX2_saveTo_27 : decode cX2_saveTo 27 = .ok (.aload_n 0, 1) := by decide +kernel
theorem dX2_saveTo_28 : decode cX2_saveTo 28 = .ok (.getfield 9, 3) := by decide +kernel
theorem dX2_saveTo_31 : decode cX2_saveTo 31 = .ok (.iload_n 3, 1) := by decide +kernel
theorem dX2_saveTo_32 : decode cX2_saveTo 32 = .ok (.iaload, 1) := by decide +kernel
theorem dX2_saveTo_33 : decode cX2_saveTo 33 = .ok (.iastore, 1) := by decide +kernel
theorem dX2_saveTo_34 : decode cX2_saveTo 34 = .ok (.aload_n 1, 1) := by decide +kernel
theorem dX2_saveTo_35 : decode cX2_saveTo 35 = .ok (.iload_n 2, 1) := by decide +kernel
theorem dX2_saveTo_36 : decode cX2_saveTo 36 = .ok (.iconst 3, 1) := by decide +kernel
theorem dX2_saveTo_37 : decode cX2_saveTo 37 = .ok (.iload_n 3, 1) := by decide +kernel
theorem dX2_saveTo_38 : decode cX2_saveTo 38 = .ok (.imul, 1) := by decide +kernel
theorem dX2_saveTo_39 : decode cX2_saveTo 39 = .ok (.iadd, 1) := by decide +kernel
theorem dX2_saveTo_40 : decode cX2_saveTo 40 = .ok (.iconst 1, 1) := by decide +kernel
theorem dX2_saveTo_41 : decode cX2_saveTo 41 = .ok (.iadd, 1) := by decide +kernel
theorem dX2_saveTo_42 : decode cX2_saveTo 42 = .ok (.aload_n 0, 1) := by decide +kernel
theorem dX2_saveTo_43 : decode cX2_saveTo 43 = .ok (.getfield 15, 3) := by decide +kernel
theorem dX2_saveTo_46 : decode cX2_saveTo 46 = .ok (.iload_n 3, 1) := by decide +kernel
theorem dX2_saveTo_47 : decode cX2_saveTo 47 = .ok (.iaload, 1) := by decide +kernel
theorem dX2_saveTo_48 : decode cX2_saveTo 48 = .ok (.iastore, 1) := by decide +kernel
theorem dX2_saveTo_49 : decode cX2_saveTo 49 = .ok (.aload_n 1, 1) := by decide +kernel
theorem dX2_saveTo_50 : decode cX2_saveTo 50 = .ok (.iload_n 2, 1) := by decide +kernel
theorem dX2_saveTo_51 : decode cX2_saveTo 51 = .ok (.iconst 3, 1) := by decide +kernel
theorem dX2_saveTo_52 : decode cX2_saveTo 52 = .ok (.iload_n 3, 1) := by decide +kernel
theorem dX2_saveTo_53 : decode cX2_saveTo 53 = .ok (.imul, 1) := by decide +kernel
theorem dX2_saveTo_54 : decode cX2_saveTo 54 = .ok (.iadd, 1) := by decide +kernel
theorem dX2_saveTo_55 : decode cX2_saveTo 55 = .ok (.iconst 2, 1) := by decide +kernel
theorem dX2_saveTo_56 : decode cX2_saveTo 56 = .ok (.iadd, 1) := by decide +kernel
theorem dX2_saveTo_57 : decode cX2_saveTo 57 = .ok (.aload_n 0, 1) := by decide +kernel
theorem dX2_saveTo_58 : decode cX2_saveTo 58 = .ok (.getfield 18, 3) := by decide +kernel
theorem dX2_saveTo_61 : decode cX2_saveTo 61 = .ok (.iload_n 3, 1) := by decide +kernel
theorem dX2_saveTo_62 : decode cX2_saveTo 62 = .ok (.iaload, 1) := by decide +kernel
theorem dX2_saveTo_63 : decode cX2_saveTo 63 = .ok (.iastore, 1) := by decide +kernel
theorem dX2_saveTo_64 : decode cX2_saveTo 64 = .ok (.iinc 3 1, 3) := by decide +kernel
theorem dX2_saveTo_67 : decode cX2_saveTo 67 = .ok (.goto (-51), 3) := by decide +kernel
theorem dX2_saveTo_70 : decode cX2_saveTo 70 = .ok (.iconst 0, 1) := by decide +kernel
theorem dX2_saveTo_71 : decode cX2_saveTo 71 = .ok (.istore_n 3, 1) := by decide +kernel
theorem dX2_saveTo_72 : decode cX2_saveTo 72 = .ok (.iload_n 3, 1) := by decide +kernel
theorem dX2_saveTo_73 : decode cX2_saveTo 73 = .ok (.iconst 4, 1) := by decide +kernel
theorem dX2_saveTo_74 : decode cX2_saveTo 74 = .ok (.if_icmp .ge 23, 3) := by decide +kernel
theorem dX2_saveTo_77 : decode cX2_saveTo 77 = .ok (.aload_n 1, 1) := by decide +kernel
theorem dX2_saveTo_78 : decode cX2_saveTo 78 = .ok (.iload_n 2, 1) := by decide +kernel
theorem dX2_saveTo_79 : decode cX2_saveTo 79 = .ok (.bipush 12, 2) := by decide +kernel
theorem dX2_saveTo_81 : decode cX2_saveTo 81 = .ok (.iadd, 1) := by decide +kernel
theorem dX2_saveTo_82 : decode cX2_saveTo 82 = .ok (.iload_n 3, 1) := by decide +kernel
theorem dX2_saveTo_83 : decode cX2_saveTo 83 = .ok (.iadd, 1) := by decide +kernel
theorem dX2_saveTo_84 : decode cX2_saveTo 84 = .ok (.aload_n 0, 1) := by decide +kernel
theorem dX2_saveTo_85 : decode cX2_saveTo 85 = .ok (.getfield 21, 3) := by decide +kernel
theorem dX2_saveTo_88 : decode cX2_saveTo 88 = .ok (.iload_n 3, 1) := by decide +kernel
theorem dX2_saveTo_89 : decode cX2_saveTo 89 = .ok (.iaload, 1) := by decide +kernel
theorem dX2_saveTo_90 : decode cX2_saveTo 90 = .ok (.iastore, 1) := by decide +kernel
theorem dX2_saveTo_91 : decode cX2_saveTo 91 = .ok (.iinc 3 1, 3) := by decide +kernel
theorem dX2_saveTo_94 : decode cX2_saveTo 94 = .ok (.goto (-22), 3) := by decide +kernel
theorem dX2_saveTo_97 : decode cX2_saveTo 97 = .ok (.aload_n 1, 1) := by decide +kernel
theorem dX2_saveTo_98 : decode cX2_saveTo 98 = .ok (.iload_n 2, 1) := by decide +kernel
theorem dX2_saveTo_99 : decode cX2_saveTo 99 = .ok (.bipush 18, 2) := by decide +kernel
theorem dX2_saveTo_101 : decode cX2_saveTo 101 = .ok (.iadd, 1) := by decide +kernel
theorem dX2_saveTo_102 : decode cX2_saveTo 102 = .ok (.iconst 2, 1) := by decide +kernel
theorem dX2_saveTo_103 : decode cX2_saveTo 103 = .ok (.isub, 1) := by decide +kernel
theorem dX2_saveTo_104 : decode cX2_saveTo 104 = .ok (.aload_n 0, 1) := by decide +kernel
theorem dX2_saveTo_105 : decode cX2_saveTo 105 = .ok (.getfield 24, 3) := by decide +kernel
theorem dX2_saveTo_108 : decode cX2_saveTo 108 = .ok (.iastore, 1) := by decide +kernel
theorem dX2_saveTo_109 : decode cX2_saveTo 109 = .ok (.aload_n 1, 1) := by decide +kernel
theorem dX2_saveTo_110 : decode cX2_saveTo 110 = .ok (.iload_n 2, 1) := by decide +kernel
theorem dX2_saveTo_111 : decode cX2_saveTo 111 = .ok (.bipush 18, 2) := by decide +kernel
theorem dX2_saveTo_113 : decode cX2_saveTo 113 = .ok (.iadd, 1) := by decide +kernel
theorem dX2_saveTo_114 : decode cX2_saveTo 114 = .ok (.iconst 1, 1) := by decide +kernel
theorem dX2_saveTo_115 : decode cX2_saveTo 115 = .ok (.isub, 1) := by decide +kernel
theorem dX2_saveTo_116 : decode cX2_saveTo 116 = .ok (.aload_n 0, 1) := by decide +kernel
theorem dX2_saveTo_117 : decode cX2_saveTo 117 = .ok (.getfield 28, 3) := by decide +kernel
theorem dX2_saveTo_120 : decode cX2_saveTo 120 = .ok (.iastore, 1) := by decide +kernel
theorem dX2_saveTo_121 : decode cX2_saveTo 121 = .ok (.return_, 1) := by decide +kernel
theorem dX2_loadFrom_0 : decode cX2_loadFrom 0 = .ok (.iload_n 2, 1) := by decide +kernel
theorem dX2_loadFrom_1 : decode cX2_loadFrom 1 = .ok (.ifCond .lt 12, 3) := by decide +kernel
theorem dX2_loadFrom_4 : decode cX2_loadFrom 4 = .ok (.iload_n 2, 1) := by decide +kernel
theorem dX2_loadFrom_5 : decode cX2_loadFrom 5 = .ok (.bipush 18, 2) := by decide +kernel
theorem dX2_loadFrom_7 : decode cX2_loadFrom 7 = .ok (.iadd, 1) := by decide +kernel
theorem dX2_loadFrom_8 : decode cX2_loadFrom 8 = .ok (.aload_n 1, 1) := by decide +kernel
theorem dX2_loadFrom_9 : decode cX2_loadFrom 9 = .ok (.arraylength, 1) := by decide +kernel
theorem dX2_loadFrom_10 : decode cX2_loadFrom 10 = .ok (.if_icmp .le 4, 3) := by decide +kernel
theorem dX2_loadFrom_13 : decode cX2_loadFrom 13 = .ok (.return_, 1) := by decide +kernel
theorem dX2_loadFrom_14 : decode cX2_loadFrom 14 = .ok (.iconst 0, 1) := by decide +kernel
theorem dX2_loadFrom_15 : decode cX2_loadFrom 15 = .ok (.istore_n 3, 1) := by decide +kernel
theorem dX2_loadFrom_16 : decode cX2_loadFrom 16 = .ok (.iload_n 3, 1) := by decide +kernel
theorem dX2_loadFrom_17 : decode cX2_loadFrom 17 = .ok (.iconst 4, 1) := by decide +kernel
theorem dX2_loadFrom_18 : decode cX2_loadFrom 18 = .ok (.if_icmp .ge 52, 3) := by decide +kernel
theorem dX2_loadFrom_21 : decode cX2_loadFrom 21 = .ok (.aload_n 0, 1) := by decide +kernel
theorem dX2_loadFrom_22 : decode cX2_loadFrom 22 = .ok (.getfield 9, 3) := by decide +kernel
theorem dX2_loadFrom_25 : decode cX2_loadFrom 25 = .ok (.iload_n 3, 1) := by decide +kernel
theorem dX2_loadFrom_26 : decode cX2_loadFrom 26 = .ok (.aload_n 1, 1) := by decide +kernel
theorem dX2_loadFrom_27 : decode cX2_loadFrom 27 = .ok (.iload_n 2, 1) := by decide +kernel
theorem dX2_loadFrom_28 : decode cX2_loadFrom 28 = .ok (.iconst 3, 1) := by decide +kernel
theorem dX2_loadFrom_29 : decode cX2_loadFrom 29 = .ok (.iload_n 3, 1) := by decide +kernel
theorem dX2_loadFrom_30 : decode cX2_loadFrom 30 = .ok (.imul, 1) := by decide +kernel
theorem dX2_loadFrom_31 : decode cX2_loadFrom 31 = .ok (.iadd, 1) := by decide +kernel
theorem dX2_loadFrom_32 : decode cX2_loadFrom 32 = .ok (.iaload, 1) := by decide +kernel
theorem dX2_loadFrom_33 : decode cX2_loadFrom 33 = .ok (.iastore, 1) := by decide +kernel
theorem dX2_loadFrom_34 : decode cX2_loadFrom 34 = .ok (.aload_n 0, 1) := by decide +kernel
theorem dX2_loadFrom_35 : decode cX2_loadFrom 35 = .ok (.getfield 15, 3) := by decide +kernel
theorem dX2_loadFrom_38 : decode cX2_loadFrom 38 = .ok (.iload_n 3, 1) := by decide +kernel
theorem dX2_loadFrom_39 : decode cX2_loadFrom 39 = .ok (.aload_n 1, 1) := by decide +kernel
theorem dX2_loadFrom_40 : decode cX2_loadFrom 40 = .ok (.iload_n 2, 1) := by decide +kernel
theorem dX2_loadFrom_41 : decode cX2_loadFrom 41 = .ok (.iconst 3, 1) := by decide +kernel
theorem dX2_loadFrom_42 : decode cX2_loadFrom 42 = .ok (.iload_n 3, 1) := by decide +kernel
theorem dX2_loadFrom_43 : decode cX2_loadFrom 43 = .ok (.imul, 1) := by decide +kernel
theorem dX2_loadFrom_44 : decode cX2_loadFrom 44 = .ok (.iadd, 1) := by decide +kernel
theorem dX2_loadFrom_45 : decode cX2_loadFrom 45 = .ok (.iconst 1, 1) := by decide +kernel
theorem dX2_loadFrom_46 : decode cX2_loadFrom 46 = .ok (.iadd, 1) := by decide +kernel
theorem dX2_loadFrom_47 : decode cX2_loadFrom 47 = .ok (.iaload, 1) := by decide +kernel
theorem dX2_loadFrom_48 : decode cX2_loadFrom 48 = .ok (.iastore, 1) := by decide +kernel
theorem dX2_loadFrom_49 : decode cX2_loadFrom 49 = .ok (.aload_n 0, 1) := by decide +kernel
theorem dX2_loadFrom_50 : decode cX2_loadFrom 50 = .ok (.getfield 18, 3) := by decide +kernel
theorem dX2_loadFrom_53 : decode cX2_loadFrom 53 = .ok (.iload_n 3, 1) := by decide +kernel
theorem dX2_loadFrom_54 : decode cX2_loadFrom 54 = .ok (.aload_n 1, 1) := by decide +kernel
theorem dX2_loadFrom_55 : decode cX2_loadFrom 55 = .ok (.iload_n 2, 1) := by decide +kernel
theorem dX2_loadFrom_56 : decode cX2_loadFrom 56 = .ok (.iconst 3, 1) := by decide +kernel
theorem dX2_loadFrom_57 : decode cX2_loadFrom 57 = .ok (.iload_n 3, 1) := by decide +kernel
theorem dX2_loadFrom_58 : decode cX2_loadFrom 58 = .ok (.imul, 1) := by decide +kernel
theorem dX2_loadFrom_59 : decode cX2_loadFrom 59 = .ok (.iadd, 1) := by decide +kernel
theorem dX2_loadFrom_60 : decode cX2_loadFrom 60 = .ok (.iconst 2, 1) := by decide +kernel
theorem dX2_loadFrom_61 : decode cX2_loadFrom 61 = .ok (.iadd, 1) := by decide +kernel
theorem dX2_loadFrom_62 : decode cX2_loadFrom 62 = .ok (.iaload, 1) := by decide +kernel
theorem dX2_loadFrom_63 : decode cX2_loadFrom 63 = .ok (.iastore, 1) := by decide +kernel
theorem dX2_loadFrom_64 : decode cX2_loadFrom 64 = .ok (.iinc 3 1, 3) := by decide +kernel
theorem dX2_loadFrom_67 : decode cX2_loadFrom 67 = .ok (.goto (-51), 3) := by decide +kernel
theorem dX2_loadFrom_70 : decode cX2_loadFrom 70 = .ok (.iconst 0, 1) := by decide +kernel
theorem dX2_loadFrom_71 : decode cX2_loadFrom 71 = .ok (.istore_n 3, 1) := by decide +kernel
theorem dX2_loadFrom_72 : decode cX2_loadFrom 72 = .ok (.iload_n 3, 1) := by decide +kernel
theorem dX2_loadFrom_73 : decode cX2_loadFrom 73 = .ok (.iconst 4, 1) := by decide +kernel
theorem dX2_loadFrom_74 : decode cX2_loadFrom 74 = .ok (.if_icmp .ge 23, 3) := by decide +kernel
theorem dX2_loadFrom_77 : decode cX2_loadFrom 77 = .ok (.aload_n 0, 1) := by decide +kernel
theorem dX2_loadFrom_78 : decode cX2_loadFrom 78 = .ok (.getfield 21, 3) := by decide +kernel
theorem dX2_loadFrom_81 : decode cX2_loadFrom 81 = .ok (.iload_n 3, 1) := by decide +kernel
theorem dX2_loadFrom_82 : decode cX2_loadFrom 82 = .ok (.aload_n 1, 1) := by decide +kernel
theorem dX2_loadFrom_83 : decode cX2_loadFrom 83 = .ok (.iload_n 2, 1) := by decide +kernel
theorem dX2_loadFrom_84 : decode cX2_loadFrom 84 = .ok (.bipush 12, 2) := by decide +kernel
theorem dX2_loadFrom_86 : decode cX2_loadFrom 86 = .ok (.iadd, 1) := by decide +kernel
theorem dX2_loadFrom_87 : decode cX2_loadFrom 87 = .ok (.iload_n 3, 1) := by decide +kernel
theorem dX2_loadFrom_88 : decode cX2_loadFrom 88 = .ok (.iadd, 1) := by decide +kernel
theorem dX2_loadFrom_89 : decode cX2_loadFrom 89 = .ok (.iaload, 1) := by decide +kernel
theorem dX2_loadFrom_90 : decode cX2_loadFrom 90 = .ok (.iastore, 1) := by decide +kernel
theorem dX2_loadFrom_91 : decode cX2_loadFrom 91 = .ok (.iinc 3 1, 3) := by decide +kernel
theorem dX2_loadFrom_94 : decode cX2_loadFrom 94 = .ok (.goto (-22), 3) := by decide +kernel
theorem dX2_loadFrom_97 : decode cX2_loadFrom 97 = .ok (.aload_n 0, 1) := by decide +kernel
theorem dX2_loadFrom_98 : decode cX2_loadFrom 98 = .ok (.aload_n 1, 1) := by decide +kernel
theorem dX2_loadFrom_99 : decode cX2_loadFrom 99 = .ok (.iload_n 2, 1) := by decide +kernel
theorem dX2_loadFrom_100 : decode cX2_loadFrom 100 = .ok (.bipush 18, 2) := by decide +kernel
theorem dX2_loadFrom_102 : decode cX2_loadFrom 102 = .ok (.iadd, 1) := by decide +kernel
theorem dX2_loadFrom_103 : decode cX2_loadFrom 103 = .ok (.iconst 2, 1) := by decide +kernel
theorem dX2_loadFrom_104 : decode cX2_loadFrom 104 = .ok (.isub, 1) := by decide +kernel
theorem dX2_loadFrom_105 : decode cX2_loadFrom 105 = .ok (.iaload, 1) := by decide +kernel
theorem dX2_loadFrom_106 : decode cX2_loadFrom 106 = .ok (.putfield 24, 3) := by decide +kernel
theorem dX2_loadFrom_109 : decode cX2_loadFrom 109 = .ok (.aload_n 0, 1) := by decide +kernel
theorem dX2_loadFrom_110 : decode cX2_loadFrom 110 = .ok (.aload_n 1, 1) := by decide +kernel
theorem dX2_loadFrom_111 : decode cX2_loadFrom 111 = .ok (.iload_n 2, 1) := by decide +kernel
theorem dX2_loadFrom_112 : decode cX2_loadFrom 112 = .ok (.bipush 18, 2) := by decide +kernel
theorem dX2_loadFrom_114 : decode cX2_loadFrom 114 = .ok (.iadd, 1) := by decide +kernel
theorem dX2_loadFrom_115 : decode cX2_loadFrom 115 = .ok (.iconst 1, 1) := by decide +kernel
theorem dX2_loadFrom_116 : decode cX2_loadFrom 116 = .ok (.isub, 1) := by decide +kernel
theorem dX2_loadFrom_117 : decode cX2_loadFrom 117 = .ok (.iaload, 1) := by decide +kernel
theorem dX2_loadFrom_118 : decode cX2_loadFrom 118 = .ok (.putfield 28, 3) := by decide +kernel
theorem dX2_loadFrom_121 : decode cX2_loadFrom 121 = .ok (.return_, 1) := by decide +kernel
theorem dX2_lightIfCan_0 : decode cX2_lightIfCan 0 = .ok (.aload_n 1, 1) := by decide +kernel
theorem dX2_lightIfCan_1 : decode cX2_lightIfCan 1 = .ok (.iload_n 2, 1) := by decide +kernel
theorem dX2_lightIfCan_2 : decode cX2_lightIfCan 2 = .ok (.invokevirtual 39, 3) := by decide +kernel
theorem dX2_lightIfCan_5 : decode cX2_lightIfCan 5 = .ok (.ifCond .eq 12, 3) := by decide +kernel
theorem dX2_lightIfCan_8 : decode cX2_lightIfCan 8 = .ok (.aload_n 0, 1) := by decide +kernel
theorem dX2_lightIfCan_9 : decode cX2_lightIfCan 9 = .ok (.getfield 18, 3) := by decide +kernel
theorem dX2_lightIfCan_12 : decode cX2_lightIfCan 12 = .ok (.iload_n 2, 1) := by decide +kernel
theorem dX2_lightIfCan_13 : decode cX2_lightIfCan 13 = .ok (.iaload, 1) := by decide +kernel
theorem dX2_lightIfCan_14 : decode cX2_lightIfCan 14 = .ok (.ifCond .eq 5, 3) := by decide +kernel
theorem dX2_lightIfCan_17 : decode cX2_lightIfCan 17 = .ok (.iconst 0, 1) := by decide +kernel
theorem dX2_lightIfCan_18 : decode cX2_lightIfCan 18 = .ok (.ireturn, 1) := by decide +kernel
theorem dX2_lightIfCan_19 : decode cX2_lightIfCan 19 = .ok (.aload_n 0, 1) := by decide +kernel
theorem dX2_lightIfCan_20 : decode cX2_lightIfCan 20 = .ok (.getfield 18, 3) := by decide +kernel
theorem dX2_lightIfCan_23 : decode cX2_lightIfCan 23 = .ok (.iload_n 2, 1) := by decide +kernel
theorem dX2_lightIfCan_24 : decode cX2_lightIfCan 24 = .ok (.iconst 1, 1) := by decide +kernel
theorem dX2_lightIfCan_25 : decode cX2_lightIfCan 25 = .ok (.iastore, 1) := by decide +kernel
theorem dX2_lightIfCan_26 : decode cX2_lightIfCan 26 = .ok (.iconst 1, 1) := by decide +kernel
theorem dX2_lightIfCan_27 : decode cX2_lightIfCan 27 = .ok (.ireturn, 1) := by decide +kernel
theorem dX2_goBy_0 : decode cX2_goBy 0 = .ok (.iconst 0, 1) := by decide +kernel
theorem dX2_goBy_1 : decode cX2_goBy 1 = .ok (.istore_n 2, 1) := by decide +kernel
theorem dX2_goBy_2 : decode cX2_goBy 2 = .ok (.iconst 0, 1) := by decide +kernel
theorem dX2_goBy_3 : decode cX2_goBy 3 = .ok (.istore_n 3, 1) := by decide +kernel
theorem dX2_goBy_4 : decode cX2_goBy 4 = .ok (.iload_n 3, 1) := by decide +kernel
theorem dX2_goBy_5 : decode cX2_goBy 5 = .ok (.aload_n 1, 1) := by decide +kernel
theorem dX2_goBy_6 : decode cX2_goBy 6 = .ok (.getfield 43, 3) := by decide +kernel
theorem dX2_goBy_9 : decode cX2_goBy 9 = .ok (.if_icmp .ge 35, 3) := by decide +kernel
theorem dX2_goBy_12 : decode cX2_goBy 12 = .ok (.aload_n 0, 1) := by decide +kernel
theorem dX2_goBy_13 : decode cX2_goBy 13 = .ok (.getfield 18, 3) := by decide +kernel
theorem dX2_goBy_16 : decode cX2_goBy 16 = .ok (.iload_n 3, 1) := by decide +kernel
theorem dX2_goBy_17 : decode cX2_goBy 17 = .ok (.iaload, 1) := by decide +kernel
theorem dX2_goBy_18 : decode cX2_goBy 18 = .ok (.iconst 1, 1) := by decide +kernel
theorem dX2_goBy_19 : decode cX2_goBy 19 = .ok (.if_icmp .ne 19, 3) := by decide +kernel
theorem dX2_goBy_22 : decode cX2_goBy 22 = .ok (.iload_n 2, 1) := by decide +kernel
theorem dX2_goBy_23 : decode cX2_goBy 23 = .ok (.aload_n 0, 1) := by decide +kernel
theorem dX2_goBy_24 : decode cX2_goBy 24 = .ok (.aload_n 1, 1) := by decide +kernel
theorem dX2_goBy_25 : decode cX2_goBy 25 = .ok (.iload_n 3, 1) := by decide +kernel
theorem dX2_goBy_26 : decode cX2_goBy 26 = .ok (.iconst 0, 1) := by decide +kernel
theorem dX2_goBy_27 : decode cX2_goBy 27 = .ok (.invokevirtual 46, 3) := by decide +kernel
theorem dX2_goBy_30 : decode cX2_goBy 30 = .ok (.ior, 1) := by decide +kernel
theorem dX2_goBy_31 : decode cX2_goBy 31 = .ok (.istore_n 2, 1) := by decide +kernel
theorem dX2_goBy_32 : decode cX2_goBy 32 = .ok (.aload_n 0, 1) := by decide +kernel
theorem dX2_goBy_33 : decode cX2_goBy 33 = .ok (.aload_n 1, 1) := by decide +kernel
theorem dX2_goBy_34 : decode cX2_goBy 34 = .ok (.iload_n 3, 1) := by decide +kernel
theorem dX2_goBy_35 : decode cX2_goBy 35 = .ok (.invokevirtual 50, 3) := by decide +kernel
theorem dX2_goBy_38 : decode cX2_goBy 38 = .ok (.iinc 3 1, 3) := by decide +kernel
theorem dX2_goBy_41 : decode cX2_goBy 41 = .ok (.goto (-37), 3) := by decide +kernel
theorem dX2_goBy_44 : decode cX2_goBy 44 = .ok (.iconst 0, 1) := by decide +kernel
theorem dX2_goBy_45 : decode cX2_goBy 45 = .ok (.istore_n 3, 1) := by decide +kernel
theorem dX2_goBy_46 : decode cX2_goBy 46 = .ok (.iconst 0, 1) := by decide +kernel
theorem dX2_goBy_47 : decode cX2_goBy 47 = .ok (.istore 4, 2) := by decide +kernel
theorem dX2_goBy_49 : decode cX2_goBy 49 = .ok (.iload 4, 2) := by decide +kernel
theorem dX2_goBy_51 : decode cX2_goBy 51 = .ok (.aload_n 1, 1) := by decide +kernel
theorem dX2_goBy_52 : decode cX2_goBy 52 = .ok (.getfield 54, 3) := by decide +kernel
theorem dX2_goBy_55 : decode cX2_goBy 55 = .ok (.if_icmp .ge 82, 3) := by decide +kernel
theorem dX2_goBy_58 : decode cX2_goBy 58 = .ok (.aload_n 0, 1) := by decide +kernel
theorem dX2_goBy_59 : decode cX2_goBy 59 = .ok (.getfield 28, 3) := by decide +kernel
theorem dX2_goBy_62 : decode cX2_goBy 62 = .ok (.aload_n 1, 1) := by decide +kernel
theorem dX2_goBy_63 : decode cX2_goBy 63 = .ok (.getfield 57, 3) := by decide +kernel
theorem dX2_goBy_66 : decode cX2_goBy 66 = .ok (.iload 4, 2) := by decide +kernel
theorem dX2_goBy_68 : decode cX2_goBy 68 = .ok (.iaload, 1) := by decide +kernel
theorem dX2_goBy_69 : decode cX2_goBy 69 = .ok (.if_icmp .lt 21, 3) := by decide +kernel
theorem dX2_goBy_72 : decode cX2_goBy 72 = .ok (.aload_n 0, 1) := by decide +kernel
theorem dX2_goBy_73 : decode cX2_goBy 73 = .ok (.getfield 28, 3) := by decide +kernel
theorem dX2_goBy_76 : decode cX2_goBy 76 = .ok (.aload_n 1, 1) := by decide +kernel
theorem dX2_goBy_77 : decode cX2_goBy 77 = .ok (.getfield 60, 3) := by decide +kernel
theorem dX2_goBy_80 : decode cX2_goBy 80 = .ok (.iload 4, 2) := by decide +kernel
theorem dX2_goBy_82 : decode cX2_goBy 82 = .ok (.iaload, 1) := by decide +kernel
theorem dX2_goBy_83 : decode cX2_goBy 83 = .ok (.if_icmp .gt 7, 3) := by decide +kernel
theorem dX2_goBy_86 : decode cX2_goBy 86 = .ok (.iconst 1, 1) := by decide +kernel
theorem dX2_goBy_87 : decode cX2_goBy 87 = .ok (.goto 4, 3) := by decide +kernel
theorem dX2_goBy_90 : decode cX2_goBy 90 = .ok (.iconst 0, 1) := by decide +kernel
theorem dX2_goBy_91 : decode cX2_goBy 91 = .ok (.istore 5, 2) := by decide +kernel
theorem dX2_goBy_93 : decode cX2_goBy 93 = .ok (.iload 5, 2) := by decide +kernel
theorem dX2_goBy_95 : decode cX2_goBy 95 = .ok (.ifCond .eq 36, 3) := by decide +kernel
theorem dX2_goBy_98 : decode cX2_goBy 98 = .ok (.iload_n 2, 1) := by decide +kernel
theorem dX2_goBy_99 : decode cX2_goBy 99 = .ok (.aload_n 1, 1) := by decide +kernel
theorem dX2_goBy_100 : decode cX2_goBy 100 = .ok (.getfield 63, 3) := by decide +kernel
theorem dX2_goBy_103 : decode cX2_goBy 103 = .ok (.iload 4, 2) := by decide +kernel
theorem dX2_goBy_105 : decode cX2_goBy 105 = .ok (.iaload, 1) := by decide +kernel
theorem dX2_goBy_106 : decode cX2_goBy 106 = .ok (.ishr, 1) := by decide +kernel
theorem dX2_goBy_107 : decode cX2_goBy 107 = .ok (.iconst 1, 1) := by decide +kernel
theorem dX2_goBy_108 : decode cX2_goBy 108 = .ok (.iand, 1) := by decide +kernel
theorem dX2_goBy_109 : decode cX2_goBy 109 = .ok (.iconst 1, 1) := by decide +kernel
theorem dX2_goBy_110 : decode cX2_goBy 110 = .ok (.if_icmp .ne 21, 3) := by decide +kernel
theorem dX2_goBy_113 : decode cX2_goBy 113 = .ok (.aload_n 0, 1) := by decide +kernel
theorem dX2_goBy_114 : decode cX2_goBy 114 = .ok (.getfield 21, 3) := by decide +kernel
theorem dX2_goBy_117 : decode cX2_goBy 117 = .ok (.iload 4, 2) := by decide +kernel
theorem dX2_goBy_119 : decode cX2_goBy 119 = .ok (.dup2, 1) := by decide +kernel
theorem dX2_goBy_120 : decode cX2_goBy 120 = .ok (.iaload, 1) := by decide +kernel
theorem dX2_goBy_121 : decode cX2_goBy 121 = .ok (.iconst 1, 1) := by decide +kernel
theorem dX2_goBy_122 : decode cX2_goBy 122 = .ok (.iadd, 1) := by decide +kernel
theorem dX2_goBy_123 : decode cX2_goBy 123 = .ok (.iastore, 1) := by decide +kernel
theorem dX2_goBy_124 : decode cX2_goBy 124 = .ok (.iload_n 3, 1) := by decide +kernel
theorem dX2_goBy_125 : decode cX2_goBy 125 = .ok (.iconst 1, 1) := by decide +kernel
theorem dX2_goBy_126 : decode cX2_goBy 126 = .ok (.iload 4, 2) := by decide +kernel
theorem dX2_goBy_128 : decode cX2_goBy 128 = .ok (.ishl, 1) := by decide +kernel
theorem dX2_goBy_129 : decode cX2_goBy 129 = .ok (.ior, 1) := by decide +kernel
theorem dX2_goBy_130 : decode cX2_goBy 130 = .ok (.istore_n 3, 1) := by decide +kernel
theorem dX2_goBy_131 : decode cX2_goBy 131 = .ok (.iinc 4 1, 3) := by decide +kernel
theorem dX2_goBy_134 : decode cX2_goBy 134 = .ok (.goto (-85), 3) := by decide +kernel
theorem dX2_goBy_137 : decode cX2_goBy 137 = .ok (.aload_n 0, 1) := by decide +kernel
theorem dX2_goBy_138 : decode cX2_goBy 138 = .ok (.dup, 1) := by decide +kernel
theorem dX2_goBy_139 : decode cX2_goBy 139 = .ok (.getfield 28, 3) := by decide +kernel
theorem dX2_goBy_142 : decode cX2_goBy 142 = .ok (.iconst 1, 1) := by decide +kernel
theorem dX2_goBy_143 : decode cX2_goBy 143 = .ok (.iadd, 1) := by decide +kernel
theorem dX2_goBy_144 : decode cX2_goBy 144 = .ok (.putfield 28, 3) := by decide +kernel
theorem dX2_goBy_147 : decode cX2_goBy 147 = .ok (.iload_n 3, 1) := by decide +kernel
theorem dX2_goBy_148 : decode cX2_goBy 148 = .ok (.ireturn, 1) := by decide +kernel
theorem dX2_burnInch_0 : decode cX2_burnInch 0 = .ok (.aload_n 0, 1) := by decide +kernel
theorem dX2_burnInch_1 : decode cX2_burnInch 1 = .ok (.getfield 9, 3) := by decide +kernel
theorem dX2_burnInch_4 : decode cX2_burnInch 4 = .ok (.iload_n 2, 1) := by decide +kernel
theorem dX2_burnInch_5 : decode cX2_burnInch 5 = .ok (.dup2, 1) := by decide +kernel
theorem dX2_burnInch_6 : decode cX2_burnInch 6 = .ok (.iaload, 1) := by decide +kernel
theorem dX2_burnInch_7 : decode cX2_burnInch 7 = .ok (.iconst 1, 1) := by decide +kernel
theorem dX2_burnInch_8 : decode cX2_burnInch 8 = .ok (.iadd, 1) := by decide +kernel
theorem dX2_burnInch_9 : decode cX2_burnInch 9 = .ok (.iastore, 1) := by decide +kernel
theorem dX2_burnInch_10 : decode cX2_burnInch 10 = .ok (.aload_n 0, 1) := by decide +kernel
theorem dX2_burnInch_11 : decode cX2_burnInch 11 = .ok (.getfield 15, 3) := by decide +kernel
theorem dX2_burnInch_14 : decode cX2_burnInch 14 = .ok (.iload_n 2, 1) := by decide +kernel
theorem dX2_burnInch_15 : decode cX2_burnInch 15 = .ok (.dup2, 1) := by decide +kernel
theorem dX2_burnInch_16 : decode cX2_burnInch 16 = .ok (.iaload, 1) := by decide +kernel
theorem dX2_burnInch_17 : decode cX2_burnInch 17 = .ok (.iconst 1, 1) := by decide +kernel
theorem dX2_burnInch_18 : decode cX2_burnInch 18 = .ok (.isub, 1) := by decide +kernel
theorem dX2_burnInch_19 : decode cX2_burnInch 19 = .ok (.iastore, 1) := by decide +kernel
theorem dX2_burnInch_20 : decode cX2_burnInch 20 = .ok (.aload_n 0, 1) := by decide +kernel
theorem dX2_burnInch_21 : decode cX2_burnInch 21 = .ok (.dup, 1) := by decide +kernel
theorem dX2_burnInch_22 : decode cX2_burnInch 22 = .ok (.getfield 24, 3) := by decide +kernel
theorem dX2_burnInch_25 : decode cX2_burnInch 25 = .ok (.aload_n 1, 1) := by decide +kernel
theorem dX2_burnInch_26 : decode cX2_burnInch 26 = .ok (.getfield 66, 3) := by decide +kernel
theorem dX2_burnInch_29 : decode cX2_burnInch 29 = .ok (.iload_n 2, 1) := by decide +kernel
theorem dX2_burnInch_30 : decode cX2_burnInch 30 = .ok (.iaload, 1) := by decide +kernel
theorem dX2_burnInch_31 : decode cX2_burnInch 31 = .ok (.iadd, 1) := by decide +kernel
theorem dX2_burnInch_32 : decode cX2_burnInch 32 = .ok (.putfield 24, 3) := by decide +kernel
theorem dX2_burnInch_35 : decode cX2_burnInch 35 = .ok (.aload_n 0, 1) := by decide +kernel
theorem dX2_burnInch_36 : decode cX2_burnInch 36 = .ok (.getfield 15, 3) := by decide +kernel
theorem dX2_burnInch_39 : decode cX2_burnInch 39 = .ok (.iload_n 2, 1) := by decide +kernel
theorem dX2_burnInch_40 : decode cX2_burnInch 40 = .ok (.iaload, 1) := by decide +kernel
theorem dX2_burnInch_41 : decode cX2_burnInch 41 = .ok (.ifCond .gt 10, 3) := by decide +kernel
theorem dX2_burnInch_44 : decode cX2_burnInch 44 = .ok (.aload_n 0, 1) := by decide +kernel
theorem dX2_burnInch_45 : decode cX2_burnInch 45 = .ok (.getfield 18, 3) := by decide +kernel
theorem dX2_burnInch_48 : decode cX2_burnInch 48 = .ok (.iload_n 2, 1) := by decide +kernel
theorem dX2_burnInch_49 : decode cX2_burnInch 49 = .ok (.iconst 2, 1) := by decide +kernel
theorem dX2_burnInch_50 : decode cX2_burnInch 50 = .ok (.iastore, 1) := by decide +kernel
theorem dX2_burnInch_51 : decode cX2_burnInch 51 = .ok (.return_, 1) := by decide +kernel
theorem dX2_giftBit_0 : decode cX2_giftBit 0 = .ok (.aload_n 1, 1) := by decide +kernel
theorem dX2_giftBit_1 : decode cX2_giftBit 1 = .ok (.iload_n 2, 1) := by decide +kernel
theorem dX2_giftBit_2 : decode cX2_giftBit 2 = .ok (.invokevirtual 39, 3) := by decide +kernel
theorem dX2_giftBit_5 : decode cX2_giftBit 5 = .ok (.ifCond .eq 17, 3) := by decide +kernel
theorem dX2_giftBit_8 : decode cX2_giftBit 8 = .ok (.iload_n 3, 1) := by decide +kernel
theorem dX2_giftBit_9 : decode cX2_giftBit 9 = .ok (.ifCond .lt 13, 3) := by decide +kernel
theorem dX2_giftBit_12 : decode cX2_giftBit 12 = .ok (.iload_n 3, 1) := by decide +kernel
theorem dX2_giftBit_13 : decode cX2_giftBit 13 = .ok (.aload_n 0, 1) := by decide +kernel
theorem dX2_giftBit_14 : decode cX2_giftBit 14 = .ok (.getfield 15, 3) := by decide +kernel
theorem dX2_giftBit_17 : decode cX2_giftBit 17 = .ok (.iload_n 2, 1) := by decide +kernel
theorem dX2_giftBit_18 : decode cX2_giftBit 18 = .ok (.iaload, 1) := by decide +kernel
theorem dX2_giftBit_19 : decode cX2_giftBit 19 = .ok (.if_icmp .lt 5, 3) := by decide +kernel
theorem dX2_giftBit_22 : decode cX2_giftBit 22 = .ok (.iconst 0, 1) := by decide +kernel
theorem dX2_giftBit_23 : decode cX2_giftBit 23 = .ok (.ireturn, 1) := by decide +kernel
theorem dX2_giftBit_24 : decode cX2_giftBit 24 = .ok (.aload_n 1, 1) := by decide +kernel
theorem dX2_giftBit_25 : decode cX2_giftBit 25 = .ok (.aload_n 0, 1) := by decide +kernel
theorem dX2_giftBit_26 : decode cX2_giftBit 26 = .ok (.getfield 9, 3) := by decide +kernel
theorem dX2_giftBit_29 : decode cX2_giftBit 29 = .ok (.iload_n 2, 1) := by decide +kernel
theorem dX2_giftBit_30 : decode cX2_giftBit 30 = .ok (.iaload, 1) := by decide +kernel
theorem dX2_giftBit_31 : decode cX2_giftBit 31 = .ok (.iload_n 3, 1) := by decide +kernel
theorem dX2_giftBit_32 : decode cX2_giftBit 32 = .ok (.iadd, 1) := by decide +kernel
theorem dX2_giftBit_33 : decode cX2_giftBit 33 = .ok (.invokevirtual 69, 3) := by decide +kernel
theorem dX2_giftBit_36 : decode cX2_giftBit 36 = .ok (.istore 4, 2) := by decide +kernel
theorem dX2_giftBit_38 : decode cX2_giftBit 38 = .ok (.iload 4, 2) := by decide +kernel
theorem dX2_giftBit_40 : decode cX2_giftBit 40 = .ok (.iconst 4, 1) := by decide +kernel
theorem dX2_giftBit_41 : decode cX2_giftBit 41 = .ok (.if_icmp .ne 7, 3) := by decide +kernel
theorem dX2_giftBit_44 : decode cX2_giftBit 44 = .ok (.iconst 0, 1) := by decide +kernel
theorem dX2_giftBit_45 : decode cX2_giftBit 45 = .ok (.goto 7, 3) := by decide +kernel
theorem dX2_giftBit_48 : decode cX2_giftBit 48 = .ok (.iconst 1, 1) := by decide +kernel
theorem dX2_giftBit_49 : decode cX2_giftBit 49 = .ok (.iload 4, 2) := by decide +kernel
theorem dX2_giftBit_51 : decode cX2_giftBit 51 = .ok (.ishl, 1) := by decide +kernel
theorem dX2_giftBit_52 : decode cX2_giftBit 52 = .ok (.ireturn, 1) := by decide +kernel
theorem dX2_withFlame_0 : decode cX2_withFlame 0 = .ok (.iconst 0, 1) := by decide +kernel
theorem dX2_withFlame_1 : decode cX2_withFlame 1 = .ok (.istore_n 3, 1) := by decide +kernel
theorem dX2_withFlame_2 : decode cX2_withFlame 2 = .ok (.iconst 0, 1) := by decide +kernel
theorem dX2_withFlame_3 : decode cX2_withFlame 3 = .ok (.istore 4, 2) := by decide +kernel
theorem dX2_withFlame_5 : decode cX2_withFlame 5 = .ok (.iload 4, 2) := by decide +kernel
theorem dX2_withFlame_7 : decode cX2_withFlame 7 = .ok (.aload_n 1, 1) := by decide +kernel
theorem dX2_withFlame_8 : decode cX2_withFlame 8 = .ok (.getfield 43, 3) := by decide +kernel
theorem dX2_withFlame_11 : decode cX2_withFlame 11 = .ok (.if_icmp .ge 27, 3) := by decide +kernel
theorem dX2_withFlame_14 : decode cX2_withFlame 14 = .ok (.aload_n 0, 1) := by decide +kernel
theorem dX2_withFlame_15 : decode cX2_withFlame 15 = .ok (.getfield 18, 3) := by decide +kernel
theorem dX2_withFlame_18 : decode cX2_withFlame 18 = .ok (.iload 4, 2) := by decide +kernel
theorem dX2_withFlame_20 : decode cX2_withFlame 20 = .ok (.iaload, 1) := by decide +kernel
theorem dX2_withFlame_21 : decode cX2_withFlame 21 = .ok (.iload_n 2, 1) := by decide +kernel
theorem dX2_withFlame_22 : decode cX2_withFlame 22 = .ok (.if_icmp .ne 10, 3) := by decide +kernel
theorem dX2_withFlame_25 : decode cX2_withFlame 25 = .ok (.iload_n 3, 1) := by decide +kernel
theorem dX2_withFlame_26 : decode cX2_withFlame 26 = .ok (.iconst 1, 1) := by decide +kernel
theorem dX2_withFlame_27 : decode cX2_withFlame 27 = .ok (.iload 4, 2) := by decide +kernel
theorem dX2_withFlame_29 : decode cX2_withFlame 29 = .ok (.ishl, 1) := by decide +kernel
theorem dX2_withFlame_30 : decode cX2_withFlame 30 = .ok (.ior, 1) := by decide +kernel
theorem dX2_withFlame_31 : decode cX2_withFlame 31 = .ok (.istore_n 3, 1) := by decide +kernel
theorem dX2_withFlame_32 : decode cX2_withFlame 32 = .ok (.iinc 4 1, 3) := by decide +kernel
theorem dX2_withFlame_35 : decode cX2_withFlame 35 = .ok (.goto (-30), 3) := by decide +kernel
theorem dX2_withFlame_38 : decode cX2_withFlame 38 = .ok (.iload_n 3, 1) := by decide +kernel
theorem dX2_withFlame_39 : decode cX2_withFlame 39 = .ok (.ireturn, 1) := by decide +kernel
theorem dX2_isContent_0 : decode cX2_isContent 0 = .ok (.aload_n 1, 1) := by decide +kernel
theorem dX2_isContent_1 : decode cX2_isContent 1 = .ok (.iload_n 2, 1) := by decide +kernel
theorem dX2_isContent_2 : decode cX2_isContent 2 = .ok (.invokevirtual 73, 3) := by decide +kernel
theorem dX2_isContent_5 : decode cX2_isContent 5 = .ok (.ifCond .eq 22, 3) := by decide +kernel
theorem dX2_isContent_8 : decode cX2_isContent 8 = .ok (.aload_n 0, 1) := by decide +kernel
theorem dX2_isContent_9 : decode cX2_isContent 9 = .ok (.getfield 21, 3) := by decide +kernel
theorem dX2_isContent_12 : decode cX2_isContent 12 = .ok (.iload_n 2, 1) := by decide +kernel
theorem dX2_isContent_13 : decode cX2_isContent 13 = .ok (.iaload, 1) := by decide +kernel
theorem dX2_isContent_14 : decode cX2_isContent 14 = .ok (.aload_n 1, 1) := by decide +kernel
theorem dX2_isContent_15 : decode cX2_isContent 15 = .ok (.getfield 76, 3) := by decide +kernel
theorem dX2_isContent_18 : decode cX2_isContent 18 = .ok (.iload_n 2, 1) := by decide +kernel
theorem dX2_isContent_19 : decode cX2_isContent 19 = .ok (.iaload, 1) := by decide +kernel
theorem dX2_isContent_20 : decode cX2_isContent 20 = .ok (.if_icmp .lt 7, 3) := by decide +kernel
theorem dX2_isContent_23 : decode cX2_isContent 23 = .ok (.iconst 1, 1) := by decide +kernel
theorem dX2_isContent_24 : decode cX2_isContent 24 = .ok (.goto 4, 3) := by decide +kernel
theorem dX2_isContent_27 : decode cX2_isContent 27 = .ok (.iconst 0, 1) := by decide +kernel
theorem dX2_isContent_28 : decode cX2_isContent 28 = .ok (.ireturn, 1) := by decide +kernel
theorem dX2_contentGuests_0 : decode cX2_contentGuests 0 = .ok (.iconst 0, 1) := by decide +kernel
theorem dX2_contentGuests_1 : decode cX2_contentGuests 1 = .ok (.istore_n 2, 1) := by decide +kernel
theorem dX2_contentGuests_2 : decode cX2_contentGuests 2 = .ok (.iconst 0, 1) := by decide +kernel
theorem dX2_contentGuests_3 : decode cX2_contentGuests 3 = .ok (.istore_n 3, 1) := by decide +kernel
theorem dX2_contentGuests_4 : decode cX2_contentGuests 4 = .ok (.iload_n 3, 1) := by decide +kernel
theorem dX2_contentGuests_5 : decode cX2_contentGuests 5 = .ok (.aload_n 1, 1) := by decide +kernel
theorem dX2_contentGuests_6 : decode cX2_contentGuests 6 = .ok (.getfield 54, 3) := by decide +kernel
theorem dX2_contentGuests_9 : decode cX2_contentGuests 9 = .ok (.if_icmp .ge 24, 3) := by decide +kernel
theorem dX2_contentGuests_12 : decode cX2_contentGuests 12 = .ok (.aload_n 0, 1) := by decide +kernel
theorem dX2_contentGuests_13 : decode cX2_contentGuests 13 = .ok (.aload_n 1, 1) := by decide +kernel
theorem dX2_contentGuests_14 : decode cX2_contentGuests 14 = .ok (.iload_n 3, 1) := by decide +kernel
theorem dX2_contentGuests_15 : decode cX2_contentGuests 15 = .ok (.invokevirtual 79, 3) := by decide +kernel
theorem dX2_contentGuests_18 : decode cX2_contentGuests 18 = .ok (.ifCond .eq 9, 3) := by decide +kernel
theorem dX2_contentGuests_21 : decode cX2_contentGuests 21 = .ok (.iload_n 2, 1) := by decide +kernel
theorem dX2_contentGuests_22 : decode cX2_contentGuests 22 = .ok (.iconst 1, 1) := by decide +kernel
theorem dX2_contentGuests_23 : decode cX2_contentGuests 23 = .ok (.iload_n 3, 1) := by decide +kernel
theorem dX2_contentGuests_24 : decode cX2_contentGuests 24 = .ok (.ishl, 1) := by decide +kernel
theorem dX2_contentGuests_25 : decode cX2_contentGuests 25 = .ok (.ior, 1) := by decide +kernel
theorem dX2_contentGuests_26 : decode cX2_contentGuests 26 = .ok (.istore_n 2, 1) := by decide +kernel
theorem dX2_contentGuests_27 : decode cX2_contentGuests 27 = .ok (.iinc 3 1, 3) := by decide +kernel
theorem dX2_contentGuests_30 : decode cX2_contentGuests 30 = .ok (.goto (-26), 3) := by decide +kernel
theorem dX2_contentGuests_33 : decode cX2_contentGuests 33 = .ok (.iload_n 2, 1) := by decide +kernel
theorem dX2_contentGuests_34 : decode cX2_contentGuests 34 = .ok (.ireturn, 1) := by decide +kernel
theorem dX3_init_0 : decode cX3_init 0 = .ok (.aload_n 0, 1) := by decide +kernel
theorem dX3_init_1 : decode cX3_init 1 = .ok (.invokespecial 3, 3) := by decide +kernel
theorem dX3_init_4 : decode cX3_init 4 = .ok (.aload_n 0, 1) := by decide +kernel
theorem dX3_init_5 : decode cX3_init 5 = .ok (.bipush 12, 2) := by decide +kernel
theorem dX3_init_7 : decode cX3_init 7 = .ok (.newarray .int, 2) := by decide +kernel
theorem dX3_init_9 : decode cX3_init 9 = .ok (.putfield 9, 3) := by decide +kernel
theorem dX3_init_12 : decode cX3_init 12 = .ok (.aload_n 0, 1) := by decide +kernel
theorem dX3_init_13 : decode cX3_init 13 = .ok (.iconst 4, 1) := by decide +kernel
theorem dX3_init_14 : decode cX3_init 14 = .ok (.newarray .int, 2) := by decide +kernel
theorem dX3_init_16 : decode cX3_init 16 = .ok (.putfield 15, 3) := by decide +kernel
theorem dX3_init_19 : decode cX3_init 19 = .ok (.aload_n 0, 1) := by decide +kernel
theorem dX3_init_20 : decode cX3_init 20 = .ok (.iconst 4, 1) := by decide +kernel
theorem dX3_init_21 : decode cX3_init 21 = .ok (.newarray .int, 2) := by decide +kernel
theorem dX3_init_23 : decode cX3_init 23 = .ok (.putfield 18, 3) := by decide +kernel
theorem dX3_init_26 : decode cX3_init 26 = .ok (.aload_n 0, 1) := by decide +kernel
theorem dX3_init_27 : decode cX3_init 27 = .ok (.iconst 4, 1) := by decide +kernel
theorem dX3_init_28 : decode cX3_init 28 = .ok (.newarray .int, 2) := by decide +kernel
theorem dX3_init_30 : decode cX3_init 30 = .ok (.putfield 21, 3) := by decide +kernel
theorem dX3_init_33 : decode cX3_init 33 = .ok (.aload_n 0, 1) := by decide +kernel
theorem dX3_init_34 : decode cX3_init 34 = .ok (.iconst 4, 1) := by decide +kernel
theorem dX3_init_35 : decode cX3_init 35 = .ok (.newarray .int, 2) := by decide +kernel
theorem dX3_init_37 : decode cX3_init 37 = .ok (.putfield 24, 3) := by decide +kernel
theorem dX3_init_40 : decode cX3_init 40 = .ok (.aload_n 0, 1) := by decide +kernel
theorem dX3_init_41 : decode cX3_init 41 = .ok (.iconst 4, 1) := by decide +kernel
theorem dX3_init_42 : decode cX3_init 42 = .ok (.newarray .int, 2) := by decide +kernel
theorem dX3_init_44 : decode cX3_init 44 = .ok (.putfield 27, 3) := by decide +kernel
theorem dX3_init_47 : decode cX3_init 47 = .ok (.aload_n 0, 1) := by decide +kernel
theorem dX3_init_48 : decode cX3_init 48 = .ok (.iconst 4, 1) := by decide +kernel
theorem dX3_init_49 : decode cX3_init 49 = .ok (.newarray .int, 2) := by decide +kernel
theorem dX3_init_51 : decode cX3_init 51 = .ok (.putfield 30, 3) := by decide +kernel
theorem dX3_init_54 : decode cX3_init 54 = .ok (.aload_n 0, 1) := by decide +kernel
theorem dX3_init_55 : decode cX3_init 55 = .ok (.iconst 4, 1) := by decide +kernel
theorem dX3_init_56 : decode cX3_init 56 = .ok (.newarray .int, 2) := by decide +kernel
theorem dX3_init_58 : decode cX3_init 58 = .ok (.putfield 33, 3) := by decide +kernel
theorem dX3_init_61 : decode cX3_init 61 = .ok (.aload_n 0, 1) := by decide +kernel
theorem dX3_init_62 : decode cX3_init 62 = .ok (.iconst 0, 1) := by decide +kernel
theorem dX3_init_63 : decode cX3_init 63 = .ok (.putfield 36, 3) := by decide +kernel
theorem dX3_init_66 : decode cX3_init 66 = .ok (.aload_n 0, 1) := by decide +kernel
theorem dX3_init_67 : decode cX3_init 67 = .ok (.iconst 0, 1) := by decide +kernel
theorem dX3_init_68 : decode cX3_init 68 = .ok (.putfield 40, 3) := by decide +kernel
theorem dX3_init_71 : decode cX3_init 71 = .ok (.aload_n 0, 1) := by decide +kernel
theorem dX3_init_72 : decode cX3_init 72 = .ok (.iconst 0, 1) := by decide +kernel
theorem dX3_init_73 : decode cX3_init 73 = .ok (.putfield 43, 3) := by decide +kernel
theorem dX3_init_76 : decode cX3_init 76 = .ok (.return_, 1) := by decide +kernel
theorem dX3_clear_0 : decode cX3_clear 0 = .ok (.aload_n 0, 1) := by decide +kernel
theorem dX3_clear_1 : decode cX3_clear 1 = .ok (.iconst 0, 1) := by decide +kernel
theorem dX3_clear_2 : decode cX3_clear 2 = .ok (.putfield 36, 3) := by decide +kernel
theorem dX3_clear_5 : decode cX3_clear 5 = .ok (.aload_n 0, 1) := by decide +kernel
theorem dX3_clear_6 : decode cX3_clear 6 = .ok (.iconst 0, 1) := by decide +kernel
theorem dX3_clear_7 : decode cX3_clear 7 = .ok (.putfield 40, 3) := by decide +kernel
theorem dX3_clear_10 : decode cX3_clear 10 = .ok (.aload_n 0, 1) := by decide +kernel
theorem dX3_clear_11 : decode cX3_clear 11 = .ok (.iconst 0, 1) := by decide +kernel
theorem dX3_clear_12 : decode cX3_clear 12 = .ok (.putfield 43, 3) := by decide +kernel
theorem dX3_clear_15 : decode cX3_clear 15 = .ok (.return_, 1) := by decide +kernel
theorem dX3_hasCandle_0 : decode cX3_hasCandle 0 = .ok (.iload_n 1, 1) := by decide +kernel
theorem dX3_hasCandle_1 : decode cX3_hasCandle 1 = .ok (.ifCond .lt 15, 3) := by decide +kernel
theorem dX3_hasCandle_4 : decode cX3_hasCandle 4 = .ok (.iload_n 1, 1) := by decide +kernel
theorem dX3_hasCandle_5 : decode cX3_hasCandle 5 = .ok (.aload_n 0, 1) := by decide +kernel
theorem dX3_hasCandle_6 : decode cX3_hasCandle 6 = .ok (.getfield 40, 3) := by decide +kernel
theorem dX3_hasCandle_9 : decode cX3_hasCandle 9 = .ok (.if_icmp .ge 7, 3) := by decide +kernel
theorem dX3_hasCandle_12 : decode cX3_hasCandle 12 = .ok (.iconst 1, 1) := by decide +kernel
theorem dX3_hasCandle_13 : decode cX3_hasCandle 13 = .ok (.goto 4, 3) := by decide +kernel
theorem dX3_hasCandle_16 : decode cX3_hasCandle 16 = .ok (.iconst 0, 1) := by decide +kernel
theorem dX3_hasCandle_17 : decode cX3_hasCandle 17 = .ok (.ireturn, 1) := by decide +kernel
theorem dX3_hasGuest_0 : decode cX3_hasGuest 0 = .ok (.iload_n 1, 1) := by decide +kernel
theorem dX3_hasGuest_1 : decode cX3_hasGuest 1 = .ok (.ifCond .lt 15, 3) := by decide +kernel
theorem dX3_hasGuest_4 : decode cX3_hasGuest 4 = .ok (.iload_n 1, 1) := by decide +kernel
theorem dX3_hasGuest_5 : decode cX3_hasGuest 5 = .ok (.aload_n 0, 1) := by decide +kernel
theorem dX3_hasGuest_6 : decode cX3_hasGuest 6 = .ok (.getfield 43, 3) := by decide +kernel
theorem dX3_hasGuest_9 : decode cX3_hasGuest 9 = .ok (.if_icmp .ge 7, 3) := by decide +kernel
theorem dX3_hasGuest_12 : decode cX3_hasGuest 12 = .ok (.iconst 1, 1) := by decide +kernel
theorem dX3_hasGuest_13 : decode cX3_hasGuest 13 = .ok (.goto 4, 3) := by decide +kernel
theorem dX3_hasGuest_16 : decode cX3_hasGuest 16 = .ok (.iconst 0, 1) := by decide +kernel
theorem dX3_hasGuest_17 : decode cX3_hasGuest 17 = .ok (.ireturn, 1) := by decide +kernel
theorem dX3_giftAt_0 : decode cX3_giftAt 0 = .ok (.iload_n 1, 1) := by decide +kernel
theorem dX3_giftAt_1 : decode cX3_giftAt 1 = .ok (.ifCond .lt 20, 3) := by decide +kernel
theorem dX3_giftAt_4 : decode cX3_giftAt 4 = .ok (.iload_n 1, 1) := by decide +kernel
theorem dX3_giftAt_5 : decode cX3_giftAt 5 = .ok (.aload_n 0, 1) := by decide +kernel
theorem dX3_giftAt_6 : decode cX3_giftAt 6 = .ok (.getfield 36, 3) := by decide +kernel
theorem dX3_giftAt_9 : decode cX3_giftAt 9 = .ok (.if_icmp .ge 12, 3) := by decide +kernel
theorem dX3_giftAt_12 : decode cX3_giftAt 12 = .ok (.aload_n 0, 1) := by decide +kernel
theorem dX3_giftAt_13 : decode cX3_giftAt 13 = .ok (.getfield 9, 3) := by decide +kernel
theorem dX3_giftAt_16 : decode cX3_giftAt 16 = .ok (.iload_n 1, 1) := by decide +kernel
theorem dX3_giftAt_17 : decode cX3_giftAt 17 = .ok (.iaload, 1) := by decide +kernel
theorem dX3_giftAt_18 : decode cX3_giftAt 18 = .ok (.goto 4, 3) := by decide +kernel
theorem dX3_giftAt_21 : decode cX3_giftAt 21 = .ok (.iconst 4, 1) := by decide +kernel
theorem dX3_giftAt_22 : decode cX3_giftAt 22 = .ok (.ireturn, 1) := by decide +kernel
theorem dX4_init_0 : decode cX4_init 0 = .ok (.aload_n 0, 1) := by decide +kernel
theorem dX4_init_1 : decode cX4_init 1 = .ok (.invokespecial 3, 3) := by decide +kernel
theorem dX4_init_4 : decode cX4_init 4 = .ok (.aload_n 0, 1) := by decide +kernel
theorem dX4_init_5 : decode cX4_init 5 = .ok (.bipush 28, 2) := by decide +kernel
theorem dX4_init_7 : decode cX4_init 7 = .ok (.newarray .long, 2) := by decide +kernel
theorem dX4_init_9 : decode cX4_init 9 = .ok (.putfield 11, 3) := by decide +kernel
theorem dX4_init_12 : decode cX4_init 12 = .ok (.aload_n 0, 1) := by decide +kernel
theorem dX4_init_13 : decode cX4_init 13 = .ok (.iconst 4, 1) := by decide +kernel
theorem dX4_init_14 : decode cX4_init 14 = .ok (.newarray .int, 2) := by decide +kernel
theorem dX4_init_16 : decode cX4_init 16 = .ok (.putfield 15, 3) := by decide +kernel
theorem dX4_init_19 : decode cX4_init 19 = .ok (.aload_n 0, 1) := by decide +kernel
theorem dX4_init_20 : decode cX4_init 20 = .ok (.iconst 4, 1) := by decide +kernel
theorem dX4_init_21 : decode cX4_init 21 = .ok (.newarray .int, 2) := by decide +kernel
theorem dX4_init_23 : decode cX4_init 23 = .ok (.putfield 19, 3) := by decide +kernel
theorem dX4_init_26 : decode cX4_init 26 = .ok (.aload_n 0, 1) := by decide +kernel
theorem dX4_init_27 : decode cX4_init 27 = .ok (.iconst 4, 1) := by decide +kernel
theorem dX4_init_28 : decode cX4_init 28 = .ok (.newarray .long, 2) := by decide +kernel
theorem dX4_init_30 : decode cX4_init 30 = .ok (.putfield 22, 3) := by decide +kernel
theorem dX4_init_33 : decode cX4_init 33 = .ok (.aload_n 0, 1) := by decide +kernel
theorem dX4_init_34 : decode cX4_init 34 = .ok (.iconst 4, 1) := by decide +kernel
theorem dX4_init_35 : decode cX4_init 35 = .ok (.newarray .int, 2) := by decide +kernel
theorem dX4_init_37 : decode cX4_init 37 = .ok (.putfield 25, 3) := by decide +kernel
theorem dX4_init_40 : decode cX4_init 40 = .ok (.aload_n 0, 1) := by decide +kernel
theorem dX4_init_41 : decode cX4_init 41 = .ok (.iconst 4, 1) := by decide +kernel
theorem dX4_init_42 : decode cX4_init 42 = .ok (.newarray .int, 2) := by decide +kernel
theorem dX4_init_44 : decode cX4_init 44 = .ok (.putfield 28, 3) := by decide +kernel
theorem dX4_init_47 : decode cX4_init 47 = .ok (.aload_n 0, 1) := by decide +kernel
theorem dX4_init_48 : decode cX4_init 48 = .ok (.iconst 4, 1) := by decide +kernel
theorem dX4_init_49 : decode cX4_init 49 = .ok (.newarray .int, 2) := by decide +kernel
theorem dX4_init_51 : decode cX4_init 51 = .ok (.putfield 31, 3) := by decide +kernel
theorem dX4_init_54 : decode cX4_init 54 = .ok (.aload_n 0, 1) := by decide +kernel
theorem dX4_init_55 : decode cX4_init 55 = .ok (.bipush 16, 2) := by decide +kernel
theorem dX4_init_57 : decode cX4_init 57 = .ok (.newarray .int, 2) := by decide +kernel
theorem dX4_init_59 : decode cX4_init 59 = .ok (.putfield 34, 3) := by decide +kernel
theorem dX4_init_62 : decode cX4_init 62 = .ok (.aload_n 0, 1) := by decide +kernel
theorem dX4_init_63 : decode cX4_init 63 = .ok (.iconst 0, 1) := by decide +kernel
theorem dX4_init_64 : decode cX4_init 64 = .ok (.putfield 37, 3) := by decide +kernel
theorem dX4_init_67 : decode cX4_init 67 = .ok (.aload_n 0, 1) := by decide +kernel
theorem dX4_init_68 : decode cX4_init 68 = .ok (.iconst 0, 1) := by decide +kernel
theorem dX4_init_69 : decode cX4_init 69 = .ok (.putfield 41, 3) := by decide +kernel
theorem dX4_init_72 : decode cX4_init 72 = .ok (.aload_n 0, 1) := by decide +kernel
theorem dX4_init_73 : decode cX4_init 73 = .ok (.iconst 0, 1) := by decide +kernel
theorem dX4_init_74 : decode cX4_init 74 = .ok (.putfield 44, 3) := by decide +kernel
theorem dX4_init_77 : decode cX4_init 77 = .ok (.aload_n 0, 1) := by decide +kernel
theorem dX4_init_78 : decode cX4_init 78 = .ok (.iconst 0, 1) := by decide +kernel
theorem dX4_init_79 : decode cX4_init 79 = .ok (.putfield 47, 3) := by decide +kernel
theorem dX4_init_82 : decode cX4_init 82 = .ok (.return_, 1) := by decide +kernel
theorem dX4_work_0 : decode cX4_work 0 = .ok (.aload_n 0, 1) := by decide +kernel
theorem dX4_work_1 : decode cX4_work 1 = .ok (.getfield 47, 3) := by decide +kernel
theorem dX4_work_4 : decode cX4_work 4 = .ok (.ifCond .eq 4, 3) := by decide +kernel
theorem dX4_work_7 : decode cX4_work 7 = .ok (.return_, 1) := by decide +kernel
theorem dX4_work_8 : decode cX4_work 8 = .ok (.aload_n 0, 1) := by decide +kernel
theorem dX4_work_9 : decode cX4_work 9 = .ok (.aload_n 1, 1) := by decide +kernel
theorem dX4_work_10 : decode cX4_work 10 = .ok (.getfield 51, 3) := by decide +kernel
theorem dX4_work_13 : decode cX4_work 13 = .ok (.putfield 37, 3) := by decide +kernel
theorem dX4_work_16 : decode cX4_work 16 = .ok (.aload_n 0, 1) := by decide +kernel
theorem dX4_work_17 : decode cX4_work 17 = .ok (.iconst 1, 1) := by decide +kernel
theorem dX4_work_18 : decode cX4_work 18 = .ok (.aload_n 0, 1) := by decide +kernel
theorem dX4_work_19 : decode cX4_work 19 = .ok (.getfield 37, 3) := by decide +kernel
theorem dX4_work_22 : decode cX4_work 22 = .ok (.ishl, 1) := by decide +kernel
theorem dX4_work_23 : decode cX4_work 23 = .ok (.iconst 1, 1) := by decide +kernel
theorem dX4_work_24 : decode cX4_work 24 = .ok (.isub, 1) := by decide +kernel
theorem dX4_work_25 : decode cX4_work 25 = .ok (.putfield 41, 3) := by decide +kernel
theorem dX4_work_28 : decode cX4_work 28 = .ok (.aload_n 0, 1) := by decide +kernel
theorem dX4_work_29 : decode cX4_work 29 = .ok (.iconst 0, 1) := by decide +kernel
theorem dX4_work_30 : decode cX4_work 30 = .ok (.putfield 44, 3) := by decide +kernel
theorem dX4_work_33 : decode cX4_work 33 = .ok (.iconst 0, 1) := by decide +kernel
theorem dX4_work_34 : decode cX4_work 34 = .ok (.istore_n 3, 1) := by decide +kernel
theorem dX4_work_35 : decode cX4_work 35 = .ok (.iload_n 3, 1) := by decide +kernel
theorem dX4_work_36 : decode cX4_work 36 = .ok (.aload_n 0, 1) := by decide +kernel
theorem dX4_work_37 : decode cX4_work 37 = .ok (.getfield 41, 3) := by decide +kernel
theorem dX4_work_40 : decode cX4_work 40 = .ok (.if_icmp .gt 26, 3) := by decide +kernel
theorem dX4_work_43 : decode cX4_work 43 = .ok (.iload_n 3, 1) := by decide +kernel
theorem dX4_work_44 : decode cX4_work 44 = .ok (.aload_n 0, 1) := by decide +kernel
theorem dX4_work_45 : decode cX4_work 45 = .ok (.getfield 34, 3) := by decide +kernel
theorem dX4_work_48 : decode cX4_work 48 = .ok (.arraylength, 1) := by decide +kernel
theorem dX4_work_49 : decode cX4_work 49 = .ok (.if_icmp .ge 17, 3) := by decide +kernel
theorem dX4_work_52 : decode cX4_work 52 = .ok (.aload_n 0, 1) := by decide +kernel
theorem dX4_work_53 : decode cX4_work 53 = .ok (.getfield 34, 3) := by decide +kernel
theorem dX4_work_56 : decode cX4_work 56 = .ok (.iload_n 3, 1) := by decide +kernel
theorem dX4_work_57 : decode cX4_work 57 = .ok (.ldc 54, 2) := by decide +kernel
theorem dX4_work_59 : decode cX4_work 59 = .ok (.iastore, 1) := by decide +kernel
theorem dX4_work_60 : decode cX4_work 60 = .ok (.iinc 3 1, 3) := by decide +kernel
theorem dX4_work_63 : decode cX4_work 63 = .ok (.goto (-28), 3) := by decide +kernel
theorem dX4_work_66 : decode cX4_work 66 = .ok (.iconst 0, 1) := by decide +kernel
theorem dX4_work_67 : decode cX4_work 67 = .ok (.istore_n 3, 1) := by decide +kernel
theorem dX4_work_68 : decode cX4_work 68 = .ok (.iload_n 3, 1) := by decide +kernel
theorem dX4_work_69 : decode cX4_work 69 = .ok (.aload_n 1, 1) := by decide +kernel
theorem dX4_work_70 : decode cX4_work 70 = .ok (.getfield 51, 3) := by decide +kernel
theorem dX4_work_73 : decode cX4_work 73 = .ok (.if_icmp .ge 16, 3) := by decide +kernel
theorem dX4_work_76 : decode cX4_work 76 = .ok (.aload_n 0, 1) := by decide +kernel
theorem dX4_work_77 : decode cX4_work 77 = .ok (.aload_n 1, 1) := by decide +kernel
theorem dX4_work_78 : decode cX4_work 78 = .ok (.aload_n 2, 1) := by decide +kernel
theorem dX4_work_79 : decode cX4_work 79 = .ok (.iload_n 3, 1) := by decide +kernel
theorem dX4_work_80 : decode cX4_work 80 = .ok (.invokevirtual 55, 3) := by decide +kernel
theorem dX4_work_83 : decode cX4_work 83 = .ok (.iinc 3 1, 3) := by decide +kernel
theorem dX4_work_86 : decode cX4_work 86 = .ok (.goto (-18), 3) := by decide +kernel
theorem dX4_work_89 : decode cX4_work 89 = .ok (.lconst 0, 1) := by decide +kernel
theorem dX4_work_90 : decode cX4_work 90 = .ok (.lstore_n 3, 1) := by decide +kernel
theorem dX4_work_91 : decode cX4_work 91 = .ok (.iconst 0, 1) := by decide +kernel
theorem dX4_work_92 : decode cX4_work 92 = .ok (.istore 5, 2) := by decide +kernel
theorem dX4_work_94 : decode cX4_work 94 = .ok (.iload 5, 2) := by decide +kernel
theorem dX4_work_96 : decode cX4_work 96 = .ok (.iconst 4, 1) := by decide +kernel
theorem dX4_work_97 : decode cX4_work 97 = .ok (.if_icmp .ge 20, 3) := by decide +kernel
theorem dX4_work_100 : decode cX4_work 100 = .ok (.lload_n 3, 1) := by decide +kernel
theorem dX4_work_101 : decode cX4_work 101 = .ok (.aload_n 0, 1) := by decide +kernel
theorem dX4_work_102 : decode cX4_work 102 = .ok (.aload_n 1, 1) := by decide +kernel
theorem dX4_work_103 : decode cX4_work 103 = .ok (.aload_n 2, 1) := by decide +kernel
theorem dX4_work_104 : decode cX4_work 104 = .ok (.iload 5, 2) := by decide +kernel
theorem dX4_work_106 : decode cX4_work 106 = .ok (.invokevirtual 59, 3) := by decide +kernel
theorem dX4_work_109 : decode cX4_work 109 = .ok (.lor, 1) := by decide +kernel
theorem dX4_work_110 : decode cX4_work 110 = .ok (.lstore_n 3, 1) := by decide +kernel
theorem dX4_work_111 : decode cX4_work 111 = .ok (.iinc 5 1, 3) := by decide +kernel
theorem dX4_work_114 : decode cX4_work 114 = .ok (.goto (-20), 3) := by decide +kernel
theorem dX4_work_117 : decode cX4_work 117 = .ok (.aload_n 0, 1) := by decide +kernel
theorem dX4_work_118 : decode cX4_work 118 = .ok (.iconst 0, 1) := by decide +kernel
theorem dX4_work_119 : decode cX4_work 119 = .ok (.lload_n 3, 1) := by decide +kernel
theorem dX4_work_120 : decode cX4_work 120 = .ok (.iconst 0, 1) := by decide +kernel
theorem dX4_work_121 : decode cX4_work 121 = .ok (.invokestatic 63, 3) := by decide +kernel
theorem dX4_work_124 : decode cX4_work 124 = .ok (.aload_n 0, 1) := by decide +kernel
theorem dX4_work_125 : decode cX4_work 125 = .ok (.invokevirtual 67, 3) := by decide +kernel
theorem dX4_work_128 : decode cX4_work 128 = .ok (.aload_n 0, 1) := by decide +kernel
theorem dX4_work_129 : decode cX4_work 129 = .ok (.iconst 1, 1) := by decide +kernel
theorem dX4_work_130 : decode cX4_work 130 = .ok (.putfield 47, 3) := by decide +kernel
theorem dX4_work_133 : decode cX4_work 133 = .ok (.return_, 1) := by decide +kernel
theorem dX4_layGuest_0 : decode cX4_layGuest 0 = .ok (.lconst 0, 1) := by decide +kernel
theorem dX4_layGuest_1 : decode cX4_layGuest 1 = .ok (.lstore 4, 2) := by decide +kernel
theorem dX4_layGuest_3 : decode cX4_layGuest 3 = .ok (.iconst 0, 1) := by decide +kernel
theorem dX4_layGuest_4 : decode cX4_layGuest 4 = .ok (.istore 6, 2) := by decide +kernel
theorem dX4_layGuest_6 : decode cX4_layGuest 6 = .ok (.iload 6, 2) := by decide +kernel
theorem dX4_layGuest_8 : decode cX4_layGuest 8 = .ok (.bipush 16, 2) := by decide +kernel
theorem dX4_layGuest_10 : decode cX4_layGuest 10 = .ok (.if_icmp .ge 49, 3) := by decide +kernel
theorem dX4_layGuest_13 : decode cX4_layGuest 13 = .ok (.aload_n 2, 1) := by decide +kernel
theorem dX4_layGuest_14 : decode cX4_layGuest 14 = .ok (.getfield 70, 3) := by decide +kernel
theorem dX4_layGuest_17 : decode cX4_layGuest 17 = .ok (.iload 6, 2) := by decide +kernel
theorem dX4_layGuest_19 : decode cX4_layGuest 19 = .ok (.iadd, 1) := by decide +kernel
theorem dX4_layGuest_20 : decode cX4_layGuest 20 = .ok (.istore 7, 2) := by decide +kernel
theorem dX4_layGuest_22 : decode cX4_layGuest 22 = .ok (.iload 7, 2) := by decide +kernel
theorem dX4_layGuest_24 : decode cX4_layGuest 24 = .ok (.aload_n 1, 1) := by decide +kernel
theorem dX4_layGuest_25 : decode cX4_layGuest 25 = .ok (.getfield 75, 3) := by decide +kernel
theorem dX4_layGuest_28 : decode cX4_layGuest 28 = .ok (.iload_n 3, 1) := by decide +kernel
theorem dX4_layGuest_29 : decode cX4_layGuest 29 = .ok (.iaload, 1) := by decide +kernel
theorem dX4_layGuest_30 : decode cX4_layGuest 30 = .ok (.if_icmp .lt 23, 3) := by decide +kernel
theorem dX4_layGuest_33 : decode cX4_layGuest 33 = .ok (.iload 7, 2) := by decide +kernel
theorem dX4_layGuest_35 : decode cX4_layGuest 35 = .ok (.aload_n 1, 1) := by decide +kernel
theorem dX4_layGuest_36 : decode cX4_layGuest 36 = .ok (.getfield 78, 3) := by decide +kernel
theorem dX4_layGuest_39 : decode cX4_layGuest 39 = .ok (.iload_n 3, 1) := by decide +kernel
theorem dX4_layGuest_40 : decode cX4_layGuest 40 = .ok (.iaload, 1) := by decide +kernel
theorem dX4_layGuest_41 : decode cX4_layGuest 41 = .ok (.if_icmp .gt 12, 3) := by decide +kernel
theorem dX4_layGuest_44 : decode cX4_layGuest 44 = .ok (.lload 4, 2) := by decide +kernel
theorem dX4_layGuest_46 : decode cX4_layGuest 46 = .ok (.lconst 1, 1) := by decide +kernel
theorem dX4_layGuest_47 : decode cX4_layGuest 47 = .ok (.iload 6, 2) := by decide +kernel
theorem dX4_layGuest_49 : decode cX4_layGuest 49 = .ok (.lshl, 1) := by decide +kernel
theorem dX4_layGuest_50 : decode cX4_layGuest 50 = .ok (.lor, 1) := by decide +kernel
theorem dX4_layGuest_51 : decode cX4_layGuest 51 = .ok (.lstore 4, 2) := by decide +kernel
theorem dX4_layGuest_53 : decode cX4_layGuest 53 = .ok (.iinc 6 1, 3) := by decide +kernel
theorem dX4_layGuest_56 : decode cX4_layGuest 56 = .ok (.goto (-50), 3) := by decide +kernel
theorem dX4_layGuest_59 : decode cX4_layGuest 59 = .ok (.aload_n 0, 1) := by decide +kernel
theorem dX4_layGuest_60 : decode cX4_layGuest 60 = .ok (.getfield 22, 3) := by decide +kernel
theorem dX4_layGuest_63 : decode cX4_layGuest 63 = .ok (.iload_n 3, 1) := by decide +kernel
theorem dX4_layGuest_64 : decode cX4_layGuest 64 = .ok (.lload 4, 2) := by decide +kernel
theorem dX4_layGuest_66 : decode cX4_layGuest 66 = .ok (.bipush 16, 2) := by decide +kernel
theorem dX4_layGuest_68 : decode cX4_layGuest 68 = .ok (.aload_n 1, 1) := by decide +kernel
theorem dX4_layGuest_69 : decode cX4_layGuest 69 = .ok (.getfield 81, 3) := by decide +kernel
theorem dX4_layGuest_72 : decode cX4_layGuest 72 = .ok (.iload_n 3, 1) := by decide +kernel
theorem dX4_layGuest_73 : decode cX4_layGuest 73 = .ok (.iaload, 1) := by decide +kernel
theorem dX4_layGuest_74 : decode cX4_layGuest 74 = .ok (.imul, 1) := by decide +kernel
theorem dX4_layGuest_75 : decode cX4_layGuest 75 = .ok (.lshl, 1) := by decide +kernel
theorem dX4_layGuest_76 : decode cX4_layGuest 76 = .ok (.lastore, 1) := by decide +kernel
theorem dX4_layGuest_77 : decode cX4_layGuest 77 = .ok (.aload_n 0, 1) := by decide +kernel
theorem dX4_layGuest_78 : decode cX4_layGuest 78 = .ok (.getfield 25, 3) := by decide +kernel
theorem dX4_layGuest_81 : decode cX4_layGuest 81 = .ok (.iload_n 3, 1) := by decide +kernel
theorem dX4_layGuest_82 : decode cX4_layGuest 82 = .ok (.aload_n 1, 1) := by decide +kernel
theorem dX4_layGuest_83 : decode cX4_layGuest 83 = .ok (.getfield 84, 3) := by decide +kernel
theorem dX4_layGuest_86 : decode cX4_layGuest 86 = .ok (.iload_n 3, 1) := by decide +kernel
theorem dX4_layGuest_87 : decode cX4_layGuest 87 = .ok (.iaload, 1) := by decide +kernel
theorem dX4_layGuest_88 : decode cX4_layGuest 88 = .ok (.aload_n 2, 1) := by decide +kernel
theorem dX4_layGuest_89 : decode cX4_layGuest 89 = .ok (.getfield 87, 3) := by decide +kernel
theorem dX4_layGuest_92 : decode cX4_layGuest 92 = .ok (.iload_n 3, 1) := by decide +kernel
theorem dX4_layGuest_93 : decode cX4_layGuest 93 = .ok (.iaload, 1) := by decide +kernel
theorem dX4_layGuest_94 : decode cX4_layGuest 94 = .ok (.isub, 1) := by decide +kernel
theorem dX4_layGuest_95 : decode cX4_layGuest 95 = .ok (.iastore, 1) := by decide +kernel
theorem dX4_layGuest_96 : decode cX4_layGuest 96 = .ok (.return_, 1) := by decide +kernel
theorem dX4_layCandle_0 : decode cX4_layCandle 0 = .ok (.aload_n 1, 1) := by decide +kernel
theorem dX4_layCandle_1 : decode cX4_layCandle 1 = .ok (.iload_n 3, 1) := by decide +kernel
theorem dX4_layCandle_2 : decode cX4_layCandle 2 = .ok (.invokevirtual 90, 3) := by decide +kernel
theorem dX4_layCandle_5 : decode cX4_layCandle 5 = .ok (.ifCond .eq 16, 3) := by decide +kernel
theorem dX4_layCandle_8 : decode cX4_layCandle 8 = .ok (.aload_n 2, 1) := by decide +kernel
theorem dX4_layCandle_9 : decode cX4_layCandle 9 = .ok (.getfield 94, 3) := by decide +kernel
theorem dX4_layCandle_12 : decode cX4_layCandle 12 = .ok (.iload_n 3, 1) := by decide +kernel
theorem dX4_layCandle_13 : decode cX4_layCandle 13 = .ok (.iaload, 1) := by decide +kernel
theorem dX4_layCandle_14 : decode cX4_layCandle 14 = .ok (.ifCond .ne 7, 3) := by decide +kernel
theorem dX4_layCandle_17 : decode cX4_layCandle 17 = .ok (.iconst 1, 1) := by decide +kernel
theorem dX4_layCandle_18 : decode cX4_layCandle 18 = .ok (.goto 4, 3) := by decide +kernel
theorem dX4_layCandle_21 : decode cX4_layCandle 21 = .ok (.iconst 0, 1) := by decide +kernel
theorem dX4_layCandle_22 : decode cX4_layCandle 22 = .ok (.istore 4, 2) := by decide +kernel
theorem dX4_layCandle_24 : decode cX4_layCandle 24 = .ok (.aload_n 1, 1) := by decide +kernel
theorem dX4_layCandle_25 : decode cX4_layCandle 25 = .ok (.iload_n 3, 1) := by decide +kernel
theorem dX4_layCandle_26 : decode cX4_layCandle 26 = .ok (.invokevirtual 90, 3) := by decide +kernel
theorem dX4_layCandle_29 : decode cX4_layCandle 29 = .ok (.ifCond .eq 17, 3) := by decide +kernel
theorem dX4_layCandle_32 : decode cX4_layCandle 32 = .ok (.aload_n 2, 1) := by decide +kernel
theorem dX4_layCandle_33 : decode cX4_layCandle 33 = .ok (.getfield 94, 3) := by decide +kernel
theorem dX4_layCandle_36 : decode cX4_layCandle 36 = .ok (.iload_n 3, 1) := by decide +kernel
theorem dX4_layCandle_37 : decode cX4_layCandle 37 = .ok (.iaload, 1) := by decide +kernel
theorem dX4_layCandle_38 : decode cX4_layCandle 38 = .ok (.iconst 1, 1) := by decide +kernel
theorem dX4_layCandle_39 : decode cX4_layCandle 39 = .ok (.if_icmp .ne 7, 3) := by decide +kernel
theorem dX4_layCandle_42 : decode cX4_layCandle 42 = .ok (.iconst 1, 1) := by decide +kernel
theorem dX4_layCandle_43 : decode cX4_layCandle 43 = .ok (.goto 4, 3) := by decide +kernel
theorem dX4_layCandle_46 : decode cX4_layCandle 46 = .ok (.iconst 0, 1) := by decide +kernel
theorem dX4_layCandle_47 : decode cX4_layCandle 47 = .ok (.istore 5, 2) := by decide +kernel
theorem dX4_layCandle_49 : decode cX4_layCandle 49 = .ok (.lconst 0, 1) := by decide +kernel
theorem dX4_layCandle_50 : decode cX4_layCandle 50 = .ok (.lstore 6, 2) := by decide +kernel
theorem dX4_layCandle_52 : decode cX4_layCandle 52 = .ok (.iconst 0, 1) := by decide +kernel
theorem dX4_layCandle_53 : decode cX4_layCandle 53 = .ok (.istore 8, 2) := by decide +kernel
theorem dX4_layCandle_55 : decode cX4_layCandle 55 = .ok (.iload 8, 2) := by decide +kernel
theorem dX4_layCandle_57 : decode cX4_layCandle 57 = .ok (.bipush 6, 2) := by decide +kernel
theorem dX4_layCandle_59 : decode cX4_layCandle 59 = .ok (.if_icmp .ge 42, 3) := by decide +kernel
theorem dX4_layCandle_62 : decode cX4_layCandle 62 = .ok (.aload_n 2, 1) := by decide +kernel
theorem dX4_layCandle_63 : decode cX4_layCandle 63 = .ok (.aload_n 1, 1) := by decide +kernel
theorem dX4_layCandle_64 : decode cX4_layCandle 64 = .ok (.iload_n 3, 1) := by decide +kernel
theorem dX4_layCandle_65 : decode cX4_layCandle 65 = .ok (.iload 8, 2) := by decide +kernel
theorem dX4_layCandle_67 : decode cX4_layCandle 67 = .ok (.invokevirtual 97, 3) := by decide +kernel
theorem dX4_layCandle_70 : decode cX4_layCandle 70 = .ok (.istore 9, 2) := by decide +kernel
theorem dX4_layCandle_72 : decode cX4_layCandle 72 = .ok (.iload 9, 2) := by decide +kernel
theorem dX4_layCandle_74 : decode cX4_layCandle 74 = .ok (.ifCond .eq 21, 3) := by decide +kernel
theorem dX4_layCandle_77 : decode cX4_layCandle 77 = .ok (.lload 6, 2) := by decide +kernel
theorem dX4_layCandle_79 : decode cX4_layCandle 79 = .ok (.lconst 1, 1) := by decide +kernel
theorem dX4_layCandle_80 : decode cX4_layCandle 80 = .ok (.bipush 16, 2) := by decide +kernel
theorem dX4_layCandle_82 : decode cX4_layCandle 82 = .ok (.iload 9, 2) := by decide +kernel
theorem dX4_layCandle_84 : decode cX4_layCandle 84 = .ok (.invokestatic 101, 3) := by decide +kernel
theorem dX4_layCandle_87 : decode cX4_layCandle 87 = .ok (.imul, 1) := by decide +kernel
theorem dX4_layCandle_88 : decode cX4_layCandle 88 = .ok (.iload 8, 2) := by decide +kernel
theorem dX4_layCandle_90 : decode cX4_layCandle 90 = .ok (.iadd, 1) := by decide +kernel
theorem dX4_layCandle_91 : decode cX4_layCandle 91 = .ok (.lshl, 1) := by decide +kernel
theorem dX4_layCandle_92 : decode cX4_layCandle 92 = .ok (.lor, 1) := by decide +kernel
theorem dX4_layCandle_93 : decode cX4_layCandle 93 = .ok (.lstore 6, 2) := by decide +kernel
theorem dX4_layCandle_95 : decode cX4_layCandle 95 = .ok (.iinc 8 1, 3) := by decide +kernel
theorem dX4_layCandle_98 : decode cX4_layCandle 98 = .ok (.goto (-43), 3) := by decide +kernel
theorem dX4_layCandle_101 : decode cX4_layCandle 101 = .ok (.aload_n 0, 1) := by decide +kernel
theorem dX4_layCandle_102 : decode cX4_layCandle 102 = .ok (.getfield 19, 3) := by decide +kernel
theorem dX4_layCandle_105 : decode cX4_layCandle 105 = .ok (.iload_n 3, 1) := by decide +kernel
theorem dX4_layCandle_106 : decode cX4_layCandle 106 = .ok (.iload 4, 2) := by decide +kernel
theorem dX4_layCandle_108 : decode cX4_layCandle 108 = .ok (.ifCond .eq 8, 3) := by decide +kernel
theorem dX4_layCandle_111 : decode cX4_layCandle 111 = .ok (.bipush 6, 2) := by decide +kernel
theorem dX4_layCandle_113 : decode cX4_layCandle 113 = .ok (.goto 4, 3) := by decide +kernel
theorem dX4_layCandle_116 : decode cX4_layCandle 116 = .ok (.iconst 0, 1) := by decide +kernel
theorem dX4_layCandle_117 : decode cX4_layCandle 117 = .ok (.iastore, 1) := by decide +kernel
theorem dX4_layCandle_118 : decode cX4_layCandle 118 = .ok (.aload_n 0, 1) := by decide +kernel
theorem dX4_layCandle_119 : decode cX4_layCandle 119 = .ok (.getfield 15, 3) := by decide +kernel
theorem dX4_layCandle_122 : decode cX4_layCandle 122 = .ok (.iload_n 3, 1) := by decide +kernel
theorem dX4_layCandle_123 : decode cX4_layCandle 123 = .ok (.iload 4, 2) := by decide +kernel
theorem dX4_layCandle_125 : decode cX4_layCandle 125 = .ok (.ifCond .eq 19, 3) := by decide +kernel
theorem dX4_layCandle_128 : decode cX4_layCandle 128 = .ok (.aload_n 1, 1) := by decide +kernel
theorem dX4_layCandle_129 : decode cX4_layCandle 129 = .ok (.getfield 107, 3) := by decide +kernel
theorem dX4_layCandle_132 : decode cX4_layCandle 132 = .ok (.iload_n 3, 1) := by decide +kernel
theorem dX4_layCandle_133 : decode cX4_layCandle 133 = .ok (.iaload, 1) := by decide +kernel
theorem dX4_layCandle_134 : decode cX4_layCandle 134 = .ok (.aload_n 2, 1) := by decide +kernel
theorem dX4_layCandle_135 : decode cX4_layCandle 135 = .ok (.getfield 108, 3) := by decide +kernel
theorem dX4_layCandle_138 : decode cX4_layCandle 138 = .ok (.iload_n 3, 1) := by decide +kernel
theorem dX4_layCandle_139 : decode cX4_layCandle 139 = .ok (.iaload, 1) := by decide +kernel
theorem dX4_layCandle_140 : decode cX4_layCandle 140 = .ok (.imul, 1) := by decide +kernel
theorem dX4_layCandle_141 : decode cX4_layCandle 141 = .ok (.goto 4, 3) := by decide +kernel
theorem dX4_layCandle_144 : decode cX4_layCandle 144 = .ok (.iconst 0, 1) := by decide +kernel
theorem dX4_layCandle_145 : decode cX4_layCandle 145 = .ok (.iastore, 1) := by decide +kernel
theorem dX4_layCandle_146 : decode cX4_layCandle 146 = .ok (.aload_n 0, 1) := by decide +kernel
theorem dX4_layCandle_147 : decode cX4_layCandle 147 = .ok (.getfield 11, 3) := by decide +kernel
theorem dX4_layCandle_150 : decode cX4_layCandle 150 = .ok (.iload_n 3, 1) := by decide +kernel
theorem dX4_layCandle_151 : decode cX4_layCandle 151 = .ok (.bipush 7, 2) := by decide +kernel
theorem dX4_layCandle_153 : decode cX4_layCandle 153 = .ok (.imul, 1) := by decide +kernel
theorem dX4_layCandle_154 : decode cX4_layCandle 154 = .ok (.lconst 0, 1) := by decide +kernel
theorem dX4_layCandle_155 : decode cX4_layCandle 155 = .ok (.lastore, 1) := by decide +kernel
theorem dX4_layCandle_156 : decode cX4_layCandle 156 = .ok (.iconst 1, 1) := by decide +kernel
theorem dX4_layCandle_157 : decode cX4_layCandle 157 = .ok (.istore 8, 2) := by decide +kernel
theorem dX4_layCandle_159 : decode cX4_layCandle 159 = .ok (.iload 8, 2) := by decide +kernel
theorem dX4_layCandle_161 : decode cX4_layCandle 161 = .ok (.bipush 6, 2) := by decide +kernel
theorem dX4_layCandle_163 : decode cX4_layCandle 163 = .ok (.if_icmp .gt 28, 3) := by decide +kernel
theorem dX4_layCandle_166 : decode cX4_layCandle 166 = .ok (.aload_n 0, 1) := by decide +kernel
theorem dX4_layCandle_167 : decode cX4_layCandle 167 = .ok (.getfield 11, 3) := by decide +kernel
theorem dX4_layCandle_170 : decode cX4_layCandle 170 = .ok (.iload_n 3, 1) := by decide +kernel
theorem dX4_layCandle_171 : decode cX4_layCandle 171 = .ok (.bipush 7, 2) := by decide +kernel
theorem dX4_layCandle_173 : decode cX4_layCandle 173 = .ok (.imul, 1) := by decide +kernel
theorem dX4_layCandle_174 : decode cX4_layCandle 174 = .ok (.iload 8, 2) := by decide +kernel
theorem dX4_layCandle_176 : decode cX4_layCandle 176 = .ok (.iadd, 1) := by decide +kernel
theorem dX4_layCandle_177 : decode cX4_layCandle 177 = .ok (.lload 6, 2) := by decide +kernel
theorem dX4_layCandle_179 : decode cX4_layCandle 179 = .ok (.iload 8, 2) := by decide +kernel
theorem dX4_layCandle_181 : decode cX4_layCandle 181 = .ok (.iconst 1, 1) := by decide +kernel
theorem dX4_layCandle_182 : decode cX4_layCandle 182 = .ok (.isub, 1) := by decide +kernel
theorem dX4_layCandle_183 : decode cX4_layCandle 183 = .ok (.lshl, 1) := by decide +kernel
theorem dX4_layCandle_184 : decode cX4_layCandle 184 = .ok (.lastore, 1) := by decide +kernel
theorem dX4_layCandle_185 : decode cX4_layCandle 185 = .ok (.iinc 8 1, 3) := by decide +kernel
theorem dX4_layCandle_188 : decode cX4_layCandle 188 = .ok (.goto (-29), 3) := by decide +kernel
theorem dX4_layCandle_191 : decode cX4_layCandle 191 = .ok (.iload 5, 2) := by decide +kernel
theorem dX4_layCandle_193 : decode cX4_layCandle 193 = .ok (.ifCond .eq 8, 3) := by decide +kernel
theorem dX4_layCandle_196 : decode cX4_layCandle 196 = .ok (.lload 6, 2) := by decide +kernel
theorem dX4_layCandle_198 : decode cX4_layCandle 198 = .ok (.goto 4, 3) := by decide +kernel
theorem dX4_layCandle_201 : decode cX4_layCandle 201 = .ok (.lconst 0, 1) := by decide +kernel
theorem dX4_layCandle_202 : decode cX4_layCandle 202 = .ok (.lreturn, 1) := by decide +kernel
theorem dX4_tryCandle_0 : decode cX4_tryCandle 0 = .ok (.iload_n 1, 1) := by decide +kernel
theorem dX4_tryCandle_1 : decode cX4_tryCandle 1 = .ok (.iconst 4, 1) := by decide +kernel
theorem dX4_tryCandle_2 : decode cX4_tryCandle 2 = .ok (.if_icmp .lt 11, 3) := by decide +kernel
theorem dX4_tryCandle_5 : decode cX4_tryCandle 5 = .ok (.aload_n 0, 1) := by decide +kernel
theorem dX4_tryCandle_6 : decode cX4_tryCandle 6 = .ok (.lload_n 2, 1) := by decide +kernel
theorem dX4_tryCandle_7 : decode cX4_tryCandle 7 = .ok (.iload 4, 2) := by decide +kernel
theorem dX4_tryCandle_9 : decode cX4_tryCandle 9 = .ok (.invokevirtual 111, 3) := by decide +kernel
theorem dX4_tryCandle_12 : decode cX4_tryCandle 12 = .ok (.return_, 1) := by decide +kernel
theorem dX4_tryCandle_13 : decode cX4_tryCandle 13 = .ok (.iconst 0, 1) := by decide +kernel
theorem dX4_tryCandle_14 : decode cX4_tryCandle 14 = .ok (.istore 5, 2) := by decide +kernel
theorem dX4_tryCandle_16 : decode cX4_tryCandle 16 = .ok (.iload 5, 2) := by decide +kernel
theorem dX4_tryCandle_18 : decode cX4_tryCandle 18 = .ok (.aload_n 0, 1) := by decide +kernel
theorem dX4_tryCandle_19 : decode cX4_tryCandle 19 = .ok (.getfield 19, 3) := by decide +kernel
theorem dX4_tryCandle_22 : decode cX4_tryCandle 22 = .ok (.iload_n 1, 1) := by decide +kernel
theorem dX4_tryCandle_23 : decode cX4_tryCandle 23 = .ok (.iaload, 1) := by decide +kernel
theorem dX4_tryCandle_24 : decode cX4_tryCandle 24 = .ok (.if_icmp .gt 60, 3) := by decide +kernel
theorem dX4_tryCandle_27 : decode cX4_tryCandle 27 = .ok (.aload_n 0, 1) := by decide +kernel
theorem dX4_tryCandle_28 : decode cX4_tryCandle 28 = .ok (.getfield 28, 3) := by decide +kernel
theorem dX4_tryCandle_31 : decode cX4_tryCandle 31 = .ok (.iload_n 1, 1) := by decide +kernel
theorem dX4_tryCandle_32 : decode cX4_tryCandle 32 = .ok (.iload 5, 2) := by decide +kernel
theorem dX4_tryCandle_34 : decode cX4_tryCandle 34 = .ok (.iastore, 1) := by decide +kernel
theorem dX4_tryCandle_35 : decode cX4_tryCandle 35 = .ok (.iload 5, 2) := by decide +kernel
theorem dX4_tryCandle_37 : decode cX4_tryCandle 37 = .ok (.ifCond .ne 7, 3) := by decide +kernel
theorem dX4_tryCandle_40 : decode cX4_tryCandle 40 = .ok (.iconst 0, 1) := by decide +kernel
theorem dX4_tryCandle_41 : decode cX4_tryCandle 41 = .ok (.goto 9, 3) := by decide +kernel
theorem dX4_tryCandle_44 : decode cX4_tryCandle 44 = .ok (.aload_n 0, 1) := by decide +kernel
theorem dX4_tryCandle_45 : decode cX4_tryCandle 45 = .ok (.getfield 15, 3) := by decide +kernel
theorem dX4_tryCandle_48 : decode cX4_tryCandle 48 = .ok (.iload_n 1, 1) := by decide +kernel
theorem dX4_tryCandle_49 : decode cX4_tryCandle 49 = .ok (.iaload, 1) := by decide +kernel
theorem dX4_tryCandle_50 : decode cX4_tryCandle 50 = .ok (.istore 6, 2) := by decide +kernel
theorem dX4_tryCandle_52 : decode cX4_tryCandle 52 = .ok (.aload_n 0, 1) := by decide +kernel
theorem dX4_tryCandle_53 : decode cX4_tryCandle 53 = .ok (.iload_n 1, 1) := by decide +kernel
theorem dX4_tryCandle_54 : decode cX4_tryCandle 54 = .ok (.iconst 1, 1) := by decide +kernel
theorem dX4_tryCandle_55 : decode cX4_tryCandle 55 = .ok (.iadd, 1) := by decide +kernel
theorem dX4_tryCandle_56 : decode cX4_tryCandle 56 = .ok (.lload_n 2, 1) := by decide +kernel
theorem dX4_tryCandle_57 : decode cX4_tryCandle 57 = .ok (.aload_n 0, 1) := by decide +kernel
theorem dX4_tryCandle_58 : decode cX4_tryCandle 58 = .ok (.getfield 11, 3) := by decide +kernel
theorem dX4_tryCandle_61 : decode cX4_tryCandle 61 = .ok (.iload_n 1, 1) := by decide +kernel
theorem dX4_tryCandle_62 : decode cX4_tryCandle 62 = .ok (.bipush 7, 2) := by decide +kernel
theorem dX4_tryCandle_64 : decode cX4_tryCandle 64 = .ok (.imul, 1) := by decide +kernel
theorem dX4_tryCandle_65 : decode cX4_tryCandle 65 = .ok (.iload 5, 2) := by decide +kernel
theorem dX4_tryCandle_67 : decode cX4_tryCandle 67 = .ok (.iadd, 1) := by decide +kernel
theorem dX4_tryCandle_68 : decode cX4_tryCandle 68 = .ok (.laload, 1) := by decide +kernel
theorem dX4_tryCandle_69 : decode cX4_tryCandle 69 = .ok (.lor, 1) := by decide +kernel
theorem dX4_tryCandle_70 : decode cX4_tryCandle 70 = .ok (.iload 4, 2) := by decide +kernel
theorem dX4_tryCandle_72 : decode cX4_tryCandle 72 = .ok (.iload 6, 2) := by decide +kernel
theorem dX4_tryCandle_74 : decode cX4_tryCandle 74 = .ok (.iadd, 1) := by decide +kernel
theorem dX4_tryCandle_75 : decode cX4_tryCandle 75 = .ok (.invokestatic 63, 3) := by decide +kernel
theorem dX4_tryCandle_78 : decode cX4_tryCandle 78 = .ok (.iinc 5 1, 3) := by decide +kernel
theorem dX4_tryCandle_81 : decode cX4_tryCandle 81 = .ok (.goto (-65), 3) := by decide +kernel
theorem dX4_tryCandle_84 : decode cX4_tryCandle 84 = .ok (.return_, 1) := by decide +kernel
theorem dX4_weigh_0 : decode cX4_weigh 0 = .ok (.iconst 0, 1) := by decide +kernel
theorem dX4_weigh_1 : decode cX4_weigh 1 = .ok (.istore 4, 2) := by decide +kernel
theorem dX4_weigh_3 : decode cX4_weigh 3 = .ok (.iconst 0, 1) := by decide +kernel
theorem dX4_weigh_4 : decode cX4_weigh 4 = .ok (.istore 5, 2) := by decide +kernel
theorem dX4_weigh_6 : decode cX4_weigh 6 = .ok (.iload 5, 2) := by decide +kernel
theorem dX4_weigh_8 : decode cX4_weigh 8 = .ok (.aload_n 0, 1) := by decide +kernel
theorem dX4_weigh_9 : decode cX4_weigh 9 = .ok (.getfield 37, 3) := by decide +kernel
theorem dX4_weigh_12 : decode cX4_weigh 12 = .ok (.if_icmp .ge 40, 3) := by decide +kernel
theorem dX4_weigh_15 : decode cX4_weigh 15 = .ok (.lload_n 1, 1) := by decide +kernel
theorem dX4_weigh_16 : decode cX4_weigh 16 = .ok (.aload_n 0, 1) := by decide +kernel
theorem dX4_weigh_17 : decode cX4_weigh 17 = .ok (.getfield 22, 3) := by decide +kernel
theorem dX4_weigh_20 : decode cX4_weigh 20 = .ok (.iload 5, 2) := by decide +kernel
theorem dX4_weigh_22 : decode cX4_weigh 22 = .ok (.laload, 1) := by decide +kernel
theorem dX4_weigh_23 : decode cX4_weigh 23 = .ok (.land, 1) := by decide +kernel
theorem dX4_weigh_24 : decode cX4_weigh 24 = .ok (.invokestatic 115, 3) := by decide +kernel
theorem dX4_weigh_27 : decode cX4_weigh 27 = .ok (.aload_n 0, 1) := by decide +kernel
theorem dX4_weigh_28 : decode cX4_weigh 28 = .ok (.getfield 25, 3) := by decide +kernel
theorem dX4_weigh_31 : decode cX4_weigh 31 = .ok (.iload 5, 2) := by decide +kernel
theorem dX4_weigh_33 : decode cX4_weigh 33 = .ok (.iaload, 1) := by decide +kernel
theorem dX4_weigh_34 : decode cX4_weigh 34 = .ok (.if_icmp .lt 12, 3) := by decide +kernel
theorem dX4_weigh_37 : decode cX4_weigh 37 = .ok (.iload 4, 2) := by decide +kernel
theorem dX4_weigh_39 : decode cX4_weigh 39 = .ok (.iconst 1, 1) := by decide +kernel
theorem dX4_weigh_40 : decode cX4_weigh 40 = .ok (.iload 5, 2) := by decide +kernel
theorem dX4_weigh_42 : decode cX4_weigh 42 = .ok (.ishl, 1) := by decide +kernel
theorem dX4_weigh_43 : decode cX4_weigh 43 = .ok (.ior, 1) := by decide +kernel
theorem dX4_weigh_44 : decode cX4_weigh 44 = .ok (.istore 4, 2) := by decide +kernel
theorem dX4_weigh_46 : decode cX4_weigh 46 = .ok (.iinc 5 1, 3) := by decide +kernel
theorem dX4_weigh_49 : decode cX4_weigh 49 = .ok (.goto (-43), 3) := by decide +kernel
theorem dX4_weigh_52 : decode cX4_weigh 52 = .ok (.aload_n 0, 1) := by decide +kernel
theorem dX4_weigh_53 : decode cX4_weigh 53 = .ok (.dup, 1) := by decide +kernel
theorem dX4_weigh_54 : decode cX4_weigh 54 = .ok (.getfield 44, 3) := by decide +kernel
theorem dX4_weigh_57 : decode cX4_weigh 57 = .ok (.iload 4, 2) := by decide +kernel
theorem dX4_weigh_59 : decode cX4_weigh 59 = .ok (.ior, 1) := by decide +kernel
theorem dX4_weigh_60 : decode cX4_weigh 60 = .ok (.putfield 44, 3) := by decide +kernel
theorem dX4_weigh_63 : decode cX4_weigh 63 = .ok (.iload_n 3, 1) := by decide +kernel
theorem dX4_weigh_64 : decode cX4_weigh 64 = .ok (.aload_n 0, 1) := by decide +kernel
theorem dX4_weigh_65 : decode cX4_weigh 65 = .ok (.getfield 34, 3) := by decide +kernel
theorem dX4_weigh_68 : decode cX4_weigh 68 = .ok (.iload 4, 2) := by decide +kernel
theorem dX4_weigh_70 : decode cX4_weigh 70 = .ok (.iaload, 1) := by decide +kernel
theorem dX4_weigh_71 : decode cX4_weigh 71 = .ok (.if_icmp .ge 34, 3) := by decide +kernel
theorem dX4_weigh_74 : decode cX4_weigh 74 = .ok (.aload_n 0, 1) := by decide +kernel
theorem dX4_weigh_75 : decode cX4_weigh 75 = .ok (.getfield 34, 3) := by decide +kernel
theorem dX4_weigh_78 : decode cX4_weigh 78 = .ok (.iload 4, 2) := by decide +kernel
theorem dX4_weigh_80 : decode cX4_weigh 80 = .ok (.iload_n 3, 1) := by decide +kernel
theorem dX4_weigh_81 : decode cX4_weigh 81 = .ok (.iastore, 1) := by decide +kernel
theorem dX4_weigh_82 : decode cX4_weigh 82 = .ok (.iload 4, 2) := by decide +kernel
theorem dX4_weigh_84 : decode cX4_weigh 84 = .ok (.aload_n 0, 1) := by decide +kernel
theorem dX4_weigh_85 : decode cX4_weigh 85 = .ok (.getfield 41, 3) := by decide +kernel
theorem dX4_weigh_88 : decode cX4_weigh 88 = .ok (.if_icmp .ne 17, 3) := by decide +kernel
theorem dX4_weigh_91 : decode cX4_weigh 91 = .ok (.aload_n 0, 1) := by decide +kernel
theorem dX4_weigh_92 : decode cX4_weigh 92 = .ok (.getfield 28, 3) := by decide +kernel
theorem dX4_weigh_95 : decode cX4_weigh 95 = .ok (.iconst 0, 1) := by decide +kernel
theorem dX4_weigh_96 : decode cX4_weigh 96 = .ok (.aload_n 0, 1) := by decide +kernel
theorem dX4_weigh_97 : decode cX4_weigh 97 = .ok (.getfield 31, 3) := by decide +kernel
theorem dX4_weigh_100 : decode cX4_weigh 100 = .ok (.iconst 0, 1) := by decide +kernel
theorem dX4_weigh_101 : decode cX4_weigh 101 = .ok (.iconst 4, 1) := by decide +kernel
theorem dX4_weigh_102 : decode cX4_weigh 102 = .ok (.invokestatic 121, 3) := by decide +kernel
theorem dX4_weigh_105 : decode cX4_weigh 105 = .ok (.return_, 1) := by decide +kernel
theorem dX4_spreadToFewerGuests_0 : decode cX4_spreadToFewerGuests 0 = .ok (.iconst 0, 1) := by decide +kernel
theorem dX4_spreadToFewerGuests_1 : decode cX4_spreadToFewerGuests 1 = .ok (.istore_n 1, 1) := by decide +kernel
theorem dX4_spreadToFewerGuests_2 : decode cX4_spreadToFewerGuests 2 = .ok (.iload_n 1, 1) := by decide +kernel
theorem dX4_spreadToFewerGuests_3 : decode cX4_spreadToFewerGuests 3 = .ok (.aload_n 0, 1) := by decide +kernel
theorem dX4_spreadToFewerGuests_4 : decode cX4_spreadToFewerGuests 4 = .ok (.getfield 37, 3) := by decide +kernel
theorem dX4_spreadToFewerGuests_7 : decode cX4_spreadToFewerGuests 7 = .ok (.if_icmp .ge 50, 3) := by decide +kernel
theorem dX4_spreadToFewerGuests_10 : decode cX4_spreadToFewerGuests 10 = .ok (.iconst 0, 1) := by decide +kernel
theorem dX4_spreadToFewerGuests_11 : decode cX4_spreadToFewerGuests 11 = .ok (.istore_n 2, 1) := by decide +kernel
theorem dX4_spreadToFewerGuests_12 : decode cX4_spreadToFewerGuests 12 = .ok (.iload_n 2, 1) := by decide +kernel
theorem dX4_spreadToFewerGuests_13 : decode cX4_spreadToFewerGuests 13 = .ok (.aload_n 0, 1) := by decide +kernel
theorem dX4_spreadToFewerGuests_14 : decode cX4_spreadToFewerGuests 14 = .ok (.getfield 41, 3) := by decide +kernel
theorem dX4_spreadToFewerGuests_17 : decode cX4_spreadToFewerGuests 17 = .ok (.if_icmp .gt 34, 3) := by decide +kernel
theorem dX4_spreadToFewerGuests_20 : decode cX4_spreadToFewerGuests 20 = .ok (.aload_n 0, 1) := by decide +kernel
theorem dX4_spreadToFewerGuests_21 : decode cX4_spreadToFewerGuests 21 = .ok (.getfield 34, 3) := by decide +kernel
theorem dX4_spreadToFewerGuests_24 : decode cX4_spreadToFewerGuests 24 = .ok (.iload_n 2, 1) := by decide +kernel
theorem dX4_spreadToFewerGuests_25 : decode cX4_spreadToFewerGuests 25 = .ok (.aload_n 0, 1) := by decide +kernel
theorem dX4_spreadToFewerGuests_26 : decode cX4_spreadToFewerGuests 26 = .ok (.getfield 34, 3) := by decide +kernel
theorem dX4_spreadToFewerGuests_29 : decode cX4_spreadToFewerGuests 29 = .ok (.iload_n 2, 1) := by decide +kernel
theorem dX4_spreadToFewerGuests_30 : decode cX4_spreadToFewerGuests 30 = .ok (.iaload, 1) := by decide +kernel
theorem dX4_spreadToFewerGuests_31 : decode cX4_spreadToFewerGuests 31 = .ok (.aload_n 0, 1) := by decide +kernel
theorem dX4_spreadToFewerGuests_32 : decode cX4_spreadToFewerGuests 32 = .ok (.getfield 34, 3) := by decide +kernel
theorem dX4_spreadToFewerGuests_35 : decode cX4_spreadToFewerGuests 35 = .ok (.iload_n 2, 1) := by decide +kernel
theorem dX4_spreadToFewerGuests_36 : decode cX4_spreadToFewerGuests 36 = .ok (.iconst 1, 1) := by decide +kernel
theorem dX4_spreadToFewerGuests_37 : decode cX4_spreadToFewerGuests 37 = .ok (.iload_n 1, 1) := by decide +kernel
theorem dX4_spreadToFewerGuests_38 : decode cX4_spreadToFewerGuests 38 = .ok (.ishl, 1) := by decide +kernel
theorem dX4_spreadToFewerGuests_39 : decode cX4_spreadToFewerGuests 39 = .ok (.ior, 1) := by decide +kernel
theorem dX4_spreadToFewerGuests_40 : decode cX4_spreadToFewerGuests 40 = .ok (.iaload, 1) := by decide +kernel
theorem dX4_spreadToFewerGuests_41 : decode cX4_spreadToFewerGuests 41 = .ok (.invokestatic 127, 3) := by decide +kernel
theorem dX4_spreadToFewerGuests_44 : decode cX4_spreadToFewerGuests 44 = .ok (.iastore, 1) := by decide +kernel
theorem dX4_spreadToFewerGuests_45 : decode cX4_spreadToFewerGuests 45 = .ok (.iinc 2 1, 3) := by decide +kernel
theorem dX4_spreadToFewerGuests_48 : decode cX4_spreadToFewerGuests 48 = .ok (.goto (-36), 3) := by decide +kernel
theorem dX4_spreadToFewerGuests_51 : decode cX4_spreadToFewerGuests 51 = .ok (.iinc 1 1, 3) := by decide +kernel
theorem dX4_spreadToFewerGuests_54 : decode cX4_spreadToFewerGuests 54 = .ok (.goto (-52), 3) := by decide +kernel
theorem dX4_spreadToFewerGuests_57 : decode cX4_spreadToFewerGuests 57 = .ok (.return_, 1) := by decide +kernel
theorem dX4_costForAll_0 : decode cX4_costForAll 0 = .ok (.aload_n 0, 1) := by decide +kernel
theorem dX4_costForAll_1 : decode cX4_costForAll 1 = .ok (.getfield 34, 3) := by decide +kernel
theorem dX4_costForAll_4 : decode cX4_costForAll 4 = .ok (.aload_n 0, 1) := by decide +kernel
theorem dX4_costForAll_5 : decode cX4_costForAll 5 = .ok (.getfield 41, 3) := by decide +kernel
theorem dX4_costForAll_8 : decode cX4_costForAll 8 = .ok (.iaload, 1) := by decide +kernel
theorem dX4_costForAll_9 : decode cX4_costForAll 9 = .ok (.ldc 54, 2) := by decide +kernel
theorem dX4_costForAll_11 : decode cX4_costForAll 11 = .ok (.if_icmp .ne 8, 3) := by decide +kernel
theorem dX4_costForAll_14 : decode cX4_costForAll 14 = .ok (.bipush (-9), 2) := by decide +kernel
theorem dX4_costForAll_16 : decode cX4_costForAll 16 = .ok (.goto 12, 3) := by decide +kernel
theorem dX4_costForAll_19 : decode cX4_costForAll 19 = .ok (.aload_n 0, 1) := by decide +kernel
theorem dX4_costForAll_20 : decode cX4_costForAll 20 = .ok (.getfield 34, 3) := by decide +kernel
theorem dX4_costForAll_23 : decode cX4_costForAll 23 = .ok (.aload_n 0, 1) := by decide +kernel
theorem dX4_costForAll_24 : decode cX4_costForAll 24 = .ok (.getfield 41, 3) := by decide +kernel
theorem dX4_costForAll_27 : decode cX4_costForAll 27 = .ok (.iaload, 1) := by decide +kernel
theorem dX4_costForAll_28 : decode cX4_costForAll 28 = .ok (.ireturn, 1) := by decide +kernel
theorem dX4_sharesOf_0 : decode cX4_sharesOf 0 = .ok (.iconst 0, 1) := by decide +kernel
theorem dX4_sharesOf_1 : decode cX4_sharesOf 1 = .ok (.istore_n 2, 1) := by decide +kernel
theorem dX4_sharesOf_2 : decode cX4_sharesOf 2 = .ok (.iconst 0, 1) := by decide +kernel
theorem dX4_sharesOf_3 : decode cX4_sharesOf 3 = .ok (.istore_n 3, 1) := by decide +kernel
theorem dX4_sharesOf_4 : decode cX4_sharesOf 4 = .ok (.iload_n 3, 1) := by decide +kernel
theorem dX4_sharesOf_5 : decode cX4_sharesOf 5 = .ok (.aload_n 0, 1) := by decide +kernel
theorem dX4_sharesOf_6 : decode cX4_sharesOf 6 = .ok (.getfield 41, 3) := by decide +kernel
theorem dX4_sharesOf_9 : decode cX4_sharesOf 9 = .ok (.if_icmp .gt 68, 3) := by decide +kernel
theorem dX4_sharesOf_12 : decode cX4_sharesOf 12 = .ok (.iload_n 3, 1) := by decide +kernel
theorem dX4_sharesOf_13 : decode cX4_sharesOf 13 = .ok (.iload_n 1, 1) := by decide +kernel
theorem dX4_sharesOf_14 : decode cX4_sharesOf 14 = .ok (.ishr, 1) := by decide +kernel
theorem dX4_sharesOf_15 : decode cX4_sharesOf 15 = .ok (.iconst 1, 1) := by decide +kernel
theorem dX4_sharesOf_16 : decode cX4_sharesOf 16 = .ok (.iand, 1) := by decide +kernel
theorem dX4_sharesOf_17 : decode cX4_sharesOf 17 = .ok (.ifCond .ne 54, 3) := by decide +kernel
theorem dX4_sharesOf_20 : decode cX4_sharesOf 20 = .ok (.iload_n 3, 1) := by decide +kernel
theorem dX4_sharesOf_21 : decode cX4_sharesOf 21 = .ok (.invokestatic 133, 3) := by decide +kernel
theorem dX4_sharesOf_24 : decode cX4_sharesOf 24 = .ok (.istore 4, 2) := by decide +kernel
theorem dX4_sharesOf_26 : decode cX4_sharesOf 26 = .ok (.getstatic 135, 3) := by decide +kernel
theorem dX4_sharesOf_29 : decode cX4_sharesOf 29 = .ok (.iload 4, 2) := by decide +kernel
theorem dX4_sharesOf_31 : decode cX4_sharesOf 31 = .ok (.iaload, 1) := by decide +kernel
theorem dX4_sharesOf_32 : decode cX4_sharesOf 32 = .ok (.getstatic 135, 3) := by decide +kernel
theorem dX4_sharesOf_35 : decode cX4_sharesOf 35 = .ok (.aload_n 0, 1) := by decide +kernel
theorem dX4_sharesOf_36 : decode cX4_sharesOf 36 = .ok (.getfield 37, 3) := by decide +kernel
theorem dX4_sharesOf_39 : decode cX4_sharesOf 39 = .ok (.iconst 1, 1) := by decide +kernel
theorem dX4_sharesOf_40 : decode cX4_sharesOf 40 = .ok (.isub, 1) := by decide +kernel
theorem dX4_sharesOf_41 : decode cX4_sharesOf 41 = .ok (.iload 4, 2) := by decide +kernel
theorem dX4_sharesOf_43 : decode cX4_sharesOf 43 = .ok (.isub, 1) := by decide +kernel
theorem dX4_sharesOf_44 : decode cX4_sharesOf 44 = .ok (.iaload, 1) := by decide +kernel
theorem dX4_sharesOf_45 : decode cX4_sharesOf 45 = .ok (.imul, 1) := by decide +kernel
theorem dX4_sharesOf_46 : decode cX4_sharesOf 46 = .ok (.istore 5, 2) := by decide +kernel
theorem dX4_sharesOf_48 : decode cX4_sharesOf 48 = .ok (.iload_n 2, 1) := by decide +kernel
theorem dX4_sharesOf_49 : decode cX4_sharesOf 49 = .ok (.iload 5, 2) := by decide +kernel
theorem dX4_sharesOf_51 : decode cX4_sharesOf 51 = .ok (.aload_n 0, 1) := by decide +kernel
theorem dX4_sharesOf_52 : decode cX4_sharesOf 52 = .ok (.getfield 34, 3) := by decide +kernel
theorem dX4_sharesOf_55 : decode cX4_sharesOf 55 = .ok (.iload_n 3, 1) := by decide +kernel
theorem dX4_sharesOf_56 : decode cX4_sharesOf 56 = .ok (.iconst 1, 1) := by decide +kernel
theorem dX4_sharesOf_57 : decode cX4_sharesOf 57 = .ok (.iload_n 1, 1) := by decide +kernel
theorem dX4_sharesOf_58 : decode cX4_sharesOf 58 = .ok (.ishl, 1) := by decide +kernel
theorem dX4_sharesOf_59 : decode cX4_sharesOf 59 = .ok (.ior, 1) := by decide +kernel
theorem dX4_sharesOf_60 : decode cX4_sharesOf 60 = .ok (.iaload, 1) := by decide +kernel
theorem dX4_sharesOf_61 : decode cX4_sharesOf 61 = .ok (.aload_n 0, 1) := by decide +kernel
theorem dX4_sharesOf_62 : decode cX4_sharesOf 62 = .ok (.getfield 34, 3) := by decide +kernel
theorem dX4_sharesOf_65 : decode cX4_sharesOf 65 = .ok (.iload_n 3, 1) := by decide +kernel
theorem dX4_sharesOf_66 : decode cX4_sharesOf 66 = .ok (.iaload, 1) := by decide +kernel
theorem dX4_sharesOf_67 : decode cX4_sharesOf 67 = .ok (.isub, 1) := by decide +kernel
theorem dX4_sharesOf_68 : decode cX4_sharesOf 68 = .ok (.imul, 1) := by decide +kernel
theorem dX4_sharesOf_69 : decode cX4_sharesOf 69 = .ok (.iadd, 1) := by decide +kernel
theorem dX4_sharesOf_70 : decode cX4_sharesOf 70 = .ok (.istore_n 2, 1) := by decide +kernel
theorem dX4_sharesOf_71 : decode cX4_sharesOf 71 = .ok (.iinc 3 1, 3) := by decide +kernel
theorem dX4_sharesOf_74 : decode cX4_sharesOf 74 = .ok (.goto (-70), 3) := by decide +kernel
theorem dX4_sharesOf_77 : decode cX4_sharesOf 77 = .ok (.iload_n 2, 1) := by decide +kernel
theorem dX4_sharesOf_78 : decode cX4_sharesOf 78 = .ok (.ireturn, 1) := by decide +kernel
theorem dX5_init_0 : decode cX5_init 0 = .ok (.aload_n 0, 1) := by decide +kernel
theorem dX5_init_1 : decode cX5_init 1 = .ok (.invokespecial 3, 3) := by decide +kernel
theorem dX5_init_4 : decode cX5_init 4 = .ok (.aload_n 0, 1) := by decide +kernel
theorem dX5_init_5 : decode cX5_init 5 = .ok (.bipush 64, 2) := by decide +kernel
theorem dX5_init_7 : decode cX5_init 7 = .ok (.newarray .int, 2) := by decide +kernel
theorem dX5_init_9 : decode cX5_init 9 = .ok (.putfield 9, 3) := by decide +kernel
theorem dX5_init_12 : decode cX5_init 12 = .ok (.return_, 1) := by decide +kernel
theorem dX5_fewest_0 : decode cX5_fewest 0 = .ok (.iconst 1, 1) := by decide +kernel
theorem dX5_fewest_1 : decode cX5_fewest 1 = .ok (.iload_n 2, 1) := by decide +kernel
theorem dX5_fewest_2 : decode cX5_fewest 2 = .ok (.ishl, 1) := by decide +kernel
theorem dX5_fewest_3 : decode cX5_fewest 3 = .ok (.iconst 1, 1) := by decide +kernel
theorem dX5_fewest_4 : decode cX5_fewest 4 = .ok (.isub, 1) := by decide +kernel
theorem dX5_fewest_5 : decode cX5_fewest 5 = .ok (.istore 4, 2) := by decide +kernel
theorem dX5_fewest_7 : decode cX5_fewest 7 = .ok (.aload_n 0, 1) := by decide +kernel
theorem dX5_fewest_8 : decode cX5_fewest 8 = .ok (.getfield 9, 3) := by decide +kernel
theorem dX5_fewest_11 : decode cX5_fewest 11 = .ok (.iconst 0, 1) := by decide +kernel
theorem dX5_fewest_12 : decode cX5_fewest 12 = .ok (.iload_n 1, 1) := by decide +kernel
theorem dX5_fewest_13 : decode cX5_fewest 13 = .ok (.iastore, 1) := by decide +kernel
theorem dX5_fewest_14 : decode cX5_fewest 14 = .ok (.iconst 1, 1) := by decide +kernel
theorem dX5_fewest_15 : decode cX5_fewest 15 = .ok (.istore 5, 2) := by decide +kernel
theorem dX5_fewest_17 : decode cX5_fewest 17 = .ok (.iload 5, 2) := by decide +kernel
theorem dX5_fewest_19 : decode cX5_fewest 19 = .ok (.iload 4, 2) := by decide +kernel
theorem dX5_fewest_21 : decode cX5_fewest 21 = .ok (.if_icmp .gt 100, 3) := by decide +kernel
theorem dX5_fewest_24 : decode cX5_fewest 24 = .ok (.iload 5, 2) := by decide +kernel
theorem dX5_fewest_26 : decode cX5_fewest 26 = .ok (.aload_n 0, 1) := by decide +kernel
theorem dX5_fewest_27 : decode cX5_fewest 27 = .ok (.getfield 9, 3) := by decide +kernel
theorem dX5_fewest_30 : decode cX5_fewest 30 = .ok (.arraylength, 1) := by decide +kernel
theorem dX5_fewest_31 : decode cX5_fewest 31 = .ok (.if_icmp .ge 90, 3) := by decide +kernel
theorem dX5_fewest_34 : decode cX5_fewest 34 = .ok (.aload_n 0, 1) := by decide +kernel
theorem dX5_fewest_35 : decode cX5_fewest 35 = .ok (.getfield 9, 3) := by decide +kernel
theorem dX5_fewest_38 : decode cX5_fewest 38 = .ok (.iload 5, 2) := by decide +kernel
theorem dX5_fewest_40 : decode cX5_fewest 40 = .ok (.ldc 15, 2) := by decide +kernel
theorem dX5_fewest_42 : decode cX5_fewest 42 = .ok (.iastore, 1) := by decide +kernel
theorem dX5_fewest_43 : decode cX5_fewest 43 = .ok (.iconst 0, 1) := by decide +kernel
theorem dX5_fewest_44 : decode cX5_fewest 44 = .ok (.istore 6, 2) := by decide +kernel
theorem dX5_fewest_46 : decode cX5_fewest 46 = .ok (.iload 6, 2) := by decide +kernel
theorem dX5_fewest_48 : decode cX5_fewest 48 = .ok (.iload_n 2, 1) := by decide +kernel
theorem dX5_fewest_49 : decode cX5_fewest 49 = .ok (.if_icmp .ge 66, 3) := by decide +kernel
theorem dX5_fewest_52 : decode cX5_fewest 52 = .ok (.iload 5, 2) := by decide +kernel
theorem dX5_fewest_54 : decode cX5_fewest 54 = .ok (.iload 6, 2) := by decide +kernel
theorem dX5_fewest_56 : decode cX5_fewest 56 = .ok (.ishr, 1) := by decide +kernel
theorem dX5_fewest_57 : decode cX5_fewest 57 = .ok (.iconst 1, 1) := by decide +kernel
theorem dX5_fewest_58 : decode cX5_fewest 58 = .ok (.iand, 1) := by decide +kernel
theorem dX5_fewest_59 : decode cX5_fewest 59 = .ok (.iconst 1, 1) := by decide +kernel
theorem dX5_fewest_60 : decode cX5_fewest 60 = .ok (.if_icmp .ne 49, 3) := by decide +kernel
theorem dX5_fewest_63 : decode cX5_fewest 63 = .ok (.aload_n 0, 1) := by decide +kernel
theorem dX5_fewest_64 : decode cX5_fewest 64 = .ok (.getfield 9, 3) := by decide +kernel
theorem dX5_fewest_67 : decode cX5_fewest 67 = .ok (.iload 5, 2) := by decide +kernel
theorem dX5_fewest_69 : decode cX5_fewest 69 = .ok (.iconst 1, 1) := by decide +kernel
theorem dX5_fewest_70 : decode cX5_fewest 70 = .ok (.iload 6, 2) := by decide +kernel
theorem dX5_fewest_72 : decode cX5_fewest 72 = .ok (.ishl, 1) := by decide +kernel
theorem dX5_fewest_73 : decode cX5_fewest 73 = .ok (.iconst (-1), 1) := by decide +kernel
theorem dX5_fewest_74 : decode cX5_fewest 74 = .ok (.ixor, 1) := by decide +kernel
theorem dX5_fewest_75 : decode cX5_fewest 75 = .ok (.iand, 1) := by decide +kernel
theorem dX5_fewest_76 : decode cX5_fewest 76 = .ok (.iaload, 1) := by decide +kernel
theorem dX5_fewest_77 : decode cX5_fewest 77 = .ok (.iload_n 3, 1) := by decide +kernel
theorem dX5_fewest_78 : decode cX5_fewest 78 = .ok (.iload_n 2, 1) := by decide +kernel
theorem dX5_fewest_79 : decode cX5_fewest 79 = .ok (.iload 6, 2) := by decide +kernel
theorem dX5_fewest_81 : decode cX5_fewest 81 = .ok (.invokestatic 16, 3) := by decide +kernel
theorem dX5_fewest_84 : decode cX5_fewest 84 = .ok (.iload_n 1, 1) := by decide +kernel
theorem dX5_fewest_85 : decode cX5_fewest 85 = .ok (.invokestatic 20, 3) := by decide +kernel
theorem dX5_fewest_88 : decode cX5_fewest 88 = .ok (.istore 7, 2) := by decide +kernel
theorem dX5_fewest_90 : decode cX5_fewest 90 = .ok (.aload_n 0, 1) := by decide +kernel
theorem dX5_fewest_91 : decode cX5_fewest 91 = .ok (.getfield 9, 3) := by decide +kernel
theorem dX5_fewest_94 : decode cX5_fewest 94 = .ok (.iload 5, 2) := by decide +kernel
theorem dX5_fewest_96 : decode cX5_fewest 96 = .ok (.aload_n 0, 1) := by decide +kernel
theorem dX5_fewest_97 : decode cX5_fewest 97 = .ok (.getfield 9, 3) := by decide +kernel
theorem dX5_fewest_100 : decode cX5_fewest 100 = .ok (.iload 5, 2) := by decide +kernel
theorem dX5_fewest_102 : decode cX5_fewest 102 = .ok (.iaload, 1) := by decide +kernel
theorem dX5_fewest_103 : decode cX5_fewest 103 = .ok (.iload 7, 2) := by decide +kernel
theorem dX5_fewest_105 : decode cX5_fewest 105 = .ok (.invokestatic 23, 3) := by decide +kernel
theorem dX5_fewest_108 : decode cX5_fewest 108 = .ok (.iastore, 1) := by decide +kernel
theorem dX5_fewest_109 : decode cX5_fewest 109 = .ok (.iinc 6 1, 3) := by decide +kernel
theorem dX5_fewest_112 : decode cX5_fewest 112 = .ok (.goto (-66), 3) := by decide +kernel
theorem dX5_fewest_115 : decode cX5_fewest 115 = .ok (.iinc 5 1, 3) := by decide +kernel
theorem dX5_fewest_118 : decode cX5_fewest 118 = .ok (.goto (-101), 3) := by decide +kernel
theorem dX5_fewest_121 : decode cX5_fewest 121 = .ok (.aload_n 0, 1) := by decide +kernel
theorem dX5_fewest_122 : decode cX5_fewest 122 = .ok (.getfield 9, 3) := by decide +kernel
theorem dX5_fewest_125 : decode cX5_fewest 125 = .ok (.iload 4, 2) := by decide +kernel
theorem dX5_fewest_127 : decode cX5_fewest 127 = .ok (.iaload, 1) := by decide +kernel
theorem dX5_fewest_128 : decode cX5_fewest 128 = .ok (.bipush 32, 2) := by decide +kernel
theorem dX5_fewest_130 : decode cX5_fewest 130 = .ok (.idiv, 1) := by decide +kernel
theorem dX5_fewest_131 : decode cX5_fewest 131 = .ok (.ireturn, 1) := by decide +kernel
theorem dX5_withOrder_0 : decode cX5_withOrder 0 = .ok (.iload_n 0, 1) := by decide +kernel
theorem dX5_withOrder_1 : decode cX5_withOrder 1 = .ok (.bipush 32, 2) := by decide +kernel
theorem dX5_withOrder_3 : decode cX5_withOrder 3 = .ok (.irem, 1) := by decide +kernel
theorem dX5_withOrder_4 : decode cX5_withOrder 4 = .ok (.istore_n 3, 1) := by decide +kernel
theorem dX5_withOrder_5 : decode cX5_withOrder 5 = .ok (.iload_n 3, 1) := by decide +kernel
theorem dX5_withOrder_6 : decode cX5_withOrder 6 = .ok (.iload_n 1, 1) := by decide +kernel
theorem dX5_withOrder_7 : decode cX5_withOrder 7 = .ok (.iadd, 1) := by decide +kernel
theorem dX5_withOrder_8 : decode cX5_withOrder 8 = .ok (.iload_n 2, 1) := by decide +kernel
theorem dX5_withOrder_9 : decode cX5_withOrder 9 = .ok (.if_icmp .gt 9, 3) := by decide +kernel
theorem dX5_withOrder_12 : decode cX5_withOrder 12 = .ok (.iload_n 0, 1) := by decide +kernel
theorem dX5_withOrder_13 : decode cX5_withOrder 13 = .ok (.iload_n 1, 1) := by decide +kernel
theorem dX5_withOrder_14 : decode cX5_withOrder 14 = .ok (.iadd, 1) := by decide +kernel
theorem dX5_withOrder_15 : decode cX5_withOrder 15 = .ok (.goto 14, 3) := by decide +kernel
theorem dX5_withOrder_18 : decode cX5_withOrder 18 = .ok (.iload_n 0, 1) := by decide +kernel
theorem dX5_withOrder_19 : decode cX5_withOrder 19 = .ok (.bipush 32, 2) := by decide +kernel
theorem dX5_withOrder_21 : decode cX5_withOrder 21 = .ok (.idiv, 1) := by decide +kernel
theorem dX5_withOrder_22 : decode cX5_withOrder 22 = .ok (.iconst 1, 1) := by decide +kernel
theorem dX5_withOrder_23 : decode cX5_withOrder 23 = .ok (.iadd, 1) := by decide +kernel
theorem dX5_withOrder_24 : decode cX5_withOrder 24 = .ok (.bipush 32, 2) := by decide +kernel
theorem dX5_withOrder_26 : decode cX5_withOrder 26 = .ok (.imul, 1) := by decide +kernel
theorem dX5_withOrder_27 : decode cX5_withOrder 27 = .ok (.iload_n 1, 1) := by decide +kernel
theorem dX5_withOrder_28 : decode cX5_withOrder 28 = .ok (.iadd, 1) := by decide +kernel
theorem dX5_withOrder_29 : decode cX5_withOrder 29 = .ok (.ireturn, 1) := by decide +kernel
theorem dX6_init_0 : decode cX6_init 0 = .ok (.aload_n 0, 1) := by decide +kernel
theorem dX6_init_1 : decode cX6_init 1 = .ok (.invokespecial 3, 3) := by decide +kernel
theorem dX6_init_4 : decode cX6_init 4 = .ok (.aload_n 0, 1) := by decide +kernel
theorem dX6_init_5 : decode cX6_init 5 = .ok (.bipush 64, 2) := by decide +kernel
theorem dX6_init_7 : decode cX6_init 7 = .ok (.newarray .int, 2) := by decide +kernel
theorem dX6_init_9 : decode cX6_init 9 = .ok (.putfield 9, 3) := by decide +kernel
theorem dX6_init_12 : decode cX6_init 12 = .ok (.aload_n 0, 1) := by decide +kernel
theorem dX6_init_13 : decode cX6_init 13 = .ok (.iconst 0, 1) := by decide +kernel
theorem dX6_init_14 : decode cX6_init 14 = .ok (.putfield 15, 3) := by decide +kernel
theorem dX6_init_17 : decode cX6_init 17 = .ok (.return_, 1) := by decide +kernel
theorem dX6_append_0 : decode cX6_append 0 = .ok (.aload_n 0, 1) := by decide +kernel
theorem dX6_append_1 : decode cX6_append 1 = .ok (.getfield 15, 3) := by decide +kernel
theorem dX6_append_4 : decode cX6_append 4 = .ok (.bipush 64, 2) := by decide +kernel
theorem dX6_append_6 : decode cX6_append 6 = .ok (.if_icmp .lt 6, 3) := by decide +kernel
theorem dX6_append_9 : decode cX6_append 9 = .ok (.bipush (-4), 2) := by decide +kernel
theorem dX6_append_11 : decode cX6_append 11 = .ok (.ireturn, 1) := by decide +kernel
theorem dX6_append_12 : decode cX6_append 12 = .ok (.aload_n 0, 1) := by decide +kernel
theorem dX6_append_13 : decode cX6_append 13 = .ok (.getfield 9, 3) := by decide +kernel
theorem dX6_append_16 : decode cX6_append 16 = .ok (.aload_n 0, 1) := by decide +kernel
theorem dX6_append_17 : decode cX6_append 17 = .ok (.getfield 15, 3) := by decide +kernel
theorem dX6_append_20 : decode cX6_append 20 = .ok (.iload_n 1, 1) := by decide +kernel
theorem dX6_append_21 : decode cX6_append 21 = .ok (.iastore, 1) := by decide +kernel
theorem dX6_append_22 : decode cX6_append 22 = .ok (.aload_n 0, 1) := by decide +kernel
theorem dX6_append_23 : decode cX6_append 23 = .ok (.dup, 1) := by decide +kernel
theorem dX6_append_24 : decode cX6_append 24 = .ok (.getfield 15, 3) := by decide +kernel
theorem dX6_append_27 : decode cX6_append 27 = .ok (.iconst 1, 1) := by decide +kernel
theorem dX6_append_28 : decode cX6_append 28 = .ok (.iadd, 1) := by decide +kernel
theorem dX6_append_29 : decode cX6_append 29 = .ok (.putfield 15, 3) := by decide +kernel
theorem dX6_append_32 : decode cX6_append 32 = .ok (.aload_n 0, 1) := by decide +kernel
theorem dX6_append_33 : decode cX6_append 33 = .ok (.getfield 15, 3) := by decide +kernel
theorem dX6_append_36 : decode cX6_append 36 = .ok (.ireturn, 1) := by decide +kernel
theorem dX6_clear_0 : decode cX6_clear 0 = .ok (.aload_n 0, 1) := by decide +kernel
theorem dX6_clear_1 : decode cX6_clear 1 = .ok (.getfield 15, 3) := by decide +kernel
theorem dX6_clear_4 : decode cX6_clear 4 = .ok (.istore_n 1, 1) := by decide +kernel
theorem dX6_clear_5 : decode cX6_clear 5 = .ok (.aload_n 0, 1) := by decide +kernel
theorem dX6_clear_6 : decode cX6_clear 6 = .ok (.iconst 0, 1) := by decide +kernel
theorem dX6_clear_7 : decode cX6_clear 7 = .ok (.putfield 15, 3) := by decide +kernel
theorem dX6_clear_10 : decode cX6_clear 10 = .ok (.iload_n 1, 1) := by decide +kernel
theorem dX6_clear_11 : decode cX6_clear 11 = .ok (.ireturn, 1) := by decide +kernel
theorem dX6_readInto_0 : decode cX6_readInto 0 = .ok (.aload_n 1, 1) := by decide +kernel
theorem dX6_readInto_1 : decode cX6_readInto 1 = .ok (.invokevirtual 19, 3) := by decide +kernel
theorem dX6_readInto_4 : decode cX6_readInto 4 = .ok (.aload_n 0, 1) := by decide +kernel
theorem dX6_readInto_5 : decode cX6_readInto 5 = .ok (.iconst 0, 1) := by decide +kernel
theorem dX6_readInto_6 : decode cX6_readInto 6 = .ok (.invokevirtual 24, 3) := by decide +kernel
theorem dX6_readInto_9 : decode cX6_readInto 9 = .ok (.bipush 69, 2) := by decide +kernel
theorem dX6_readInto_11 : decode cX6_readInto 11 = .ok (.if_icmp .eq 5, 3) := by decide +kernel
theorem dX6_readInto_14 : decode cX6_readInto 14 = .ok (.iconst 0, 1) := by decide +kernel
theorem dX6_readInto_15 : decode cX6_readInto 15 = .ok (.ireturn, 1) := by decide +kernel
theorem dX6_readInto_16 : decode cX6_readInto 16 = .ok (.iconst 1, 1) := by decide +kernel
theorem dX6_readInto_17 : decode cX6_readInto 17 = .ok (.istore_n 2, 1) := by decide +kernel
theorem dX6_readInto_18 : decode cX6_readInto 18 = .ok (.iload_n 2, 1) := by decide +kernel
theorem dX6_readInto_19 : decode cX6_readInto 19 = .ok (.aload_n 0, 1) := by decide +kernel
theorem dX6_readInto_20 : decode cX6_readInto 20 = .ok (.getfield 15, 3) := by decide +kernel
theorem dX6_readInto_23 : decode cX6_readInto 23 = .ok (.if_icmp .ge 54, 3) := by decide +kernel
theorem dX6_readInto_26 : decode cX6_readInto 26 = .ok (.aload_n 0, 1) := by decide +kernel
theorem dX6_readInto_27 : decode cX6_readInto 27 = .ok (.iload_n 2, 1) := by decide +kernel
theorem dX6_readInto_28 : decode cX6_readInto 28 = .ok (.invokevirtual 28, 3) := by decide +kernel
theorem dX6_readInto_31 : decode cX6_readInto 31 = .ok (.bipush (-9), 2) := by decide +kernel
theorem dX6_readInto_33 : decode cX6_readInto 33 = .ok (.if_icmp .eq 44, 3) := by decide +kernel
theorem dX6_readInto_36 : decode cX6_readInto 36 = .ok (.aload_n 1, 1) := by decide +kernel
theorem dX6_readInto_37 : decode cX6_readInto 37 = .ok (.getfield 31, 3) := by decide +kernel
theorem dX6_readInto_40 : decode cX6_readInto 40 = .ok (.bipush 12, 2) := by decide +kernel
theorem dX6_readInto_42 : decode cX6_readInto 42 = .ok (.if_icmp .lt 5, 3) := by decide +kernel
theorem dX6_readInto_45 : decode cX6_readInto 45 = .ok (.iload_n 2, 1) := by decide +kernel
theorem dX6_readInto_46 : decode cX6_readInto 46 = .ok (.ireturn, 1) := by decide +kernel
theorem dX6_readInto_47 : decode cX6_readInto 47 = .ok (.aload_n 1, 1) := by decide +kernel
theorem dX6_readInto_48 : decode cX6_readInto 48 = .ok (.getfield 34, 3) := by decide +kernel
theorem dX6_readInto_51 : decode cX6_readInto 51 = .ok (.aload_n 1, 1) := by decide +kernel
theorem dX6_readInto_52 : decode cX6_readInto 52 = .ok (.getfield 31, 3) := by decide +kernel
theorem dX6_readInto_55 : decode cX6_readInto 55 = .ok (.aload_n 0, 1) := by decide +kernel
theorem dX6_readInto_56 : decode cX6_readInto 56 = .ok (.iload_n 2, 1) := by decide +kernel
theorem dX6_readInto_57 : decode cX6_readInto 57 = .ok (.invokevirtual 28, 3) := by decide +kernel
theorem dX6_readInto_60 : decode cX6_readInto 60 = .ok (.iastore, 1) := by decide +kernel
theorem dX6_readInto_61 : decode cX6_readInto 61 = .ok (.aload_n 1, 1) := by decide +kernel
theorem dX6_readInto_62 : decode cX6_readInto 62 = .ok (.dup, 1) := by decide +kernel
theorem dX6_readInto_63 : decode cX6_readInto 63 = .ok (.getfield 31, 3) := by decide +kernel
theorem dX6_readInto_66 : decode cX6_readInto 66 = .ok (.iconst 1, 1) := by decide +kernel
theorem dX6_readInto_67 : decode cX6_readInto 67 = .ok (.iadd, 1) := by decide +kernel
theorem dX6_readInto_68 : decode cX6_readInto 68 = .ok (.putfield 31, 3) := by decide +kernel
theorem dX6_readInto_71 : decode cX6_readInto 71 = .ok (.iinc 2 1, 3) := by decide +kernel
theorem dX6_readInto_74 : decode cX6_readInto 74 = .ok (.goto (-56), 3) := by decide +kernel
theorem dX6_readInto_77 : decode cX6_readInto 77 = .ok (.iload_n 2, 1) := by decide +kernel
theorem dX6_readInto_78 : decode cX6_readInto 78 = .ok (.aload_n 0, 1) := by decide +kernel
theorem dX6_readInto_79 : decode cX6_readInto 79 = .ok (.getfield 15, 3) := by decide +kernel
theorem dX6_readInto_82 : decode cX6_readInto 82 = .ok (.if_icmp .ge 24, 3) := by decide +kernel
theorem dX6_readInto_85 : decode cX6_readInto 85 = .ok (.aload_n 0, 1) := by decide +kernel
theorem dX6_readInto_86 : decode cX6_readInto 86 = .ok (.iload_n 2, 1) := by decide +kernel
theorem dX6_readInto_87 : decode cX6_readInto 87 = .ok (.aload_n 1, 1) := by decide +kernel
theorem dX6_readInto_88 : decode cX6_readInto 88 = .ok (.invokevirtual 37, 3) := by decide +kernel
theorem dX6_readInto_91 : decode cX6_readInto 91 = .ok (.istore_n 3, 1) := by decide +kernel
theorem dX6_readInto_92 : decode cX6_readInto 92 = .ok (.iload_n 3, 1) := by decide +kernel
theorem dX6_readInto_93 : decode cX6_readInto 93 = .ok (.bipush (-9), 2) := by decide +kernel
theorem dX6_readInto_95 : decode cX6_readInto 95 = .ok (.if_icmp .eq 5, 3) := by decide +kernel
theorem dX6_readInto_98 : decode cX6_readInto 98 = .ok (.iload_n 3, 1) := by decide +kernel
theorem dX6_readInto_99 : decode cX6_readInto 99 = .ok (.ireturn, 1) := by decide +kernel
theorem dX6_readInto_100 : decode cX6_readInto 100 = .ok (.iinc 2 5, 3) := by decide +kernel
theorem dX6_readInto_103 : decode cX6_readInto 103 = .ok (.goto (-26), 3) := by decide +kernel
theorem dX6_readInto_106 : decode cX6_readInto 106 = .ok (.bipush (-9), 2) := by decide +kernel
theorem dX6_readInto_108 : decode cX6_readInto 108 = .ok (.ireturn, 1) := by decide +kernel
theorem dX6_readPart_0 : decode cX6_readPart 0 = .ok (.aload_n 0, 1) := by decide +kernel
theorem dX6_readPart_1 : decode cX6_readPart 1 = .ok (.iload_n 1, 1) := by decide +kernel
theorem dX6_readPart_2 : decode cX6_readPart 2 = .ok (.invokevirtual 24, 3) := by decide +kernel
theorem dX6_readPart_5 : decode cX6_readPart 5 = .ok (.istore_n 3, 1) := by decide +kernel
theorem dX6_readPart_6 : decode cX6_readPart 6 = .ok (.iload_n 3, 1) := by decide +kernel
theorem dX6_readPart_7 : decode cX6_readPart 7 = .ok (.bipush 67, 2) := by decide +kernel
theorem dX6_readPart_9 : decode cX6_readPart 9 = .ok (.if_icmp .ne 25, 3) := by decide +kernel
theorem dX6_readPart_12 : decode cX6_readPart 12 = .ok (.aload_n 2, 1) := by decide +kernel
theorem dX6_readPart_13 : decode cX6_readPart 13 = .ok (.getfield 41, 3) := by decide +kernel
theorem dX6_readPart_16 : decode cX6_readPart 16 = .ok (.iconst 4, 1) := by decide +kernel
theorem dX6_readPart_17 : decode cX6_readPart 17 = .ok (.if_icmp .ge 17, 3) := by decide +kernel
theorem dX6_readPart_20 : decode cX6_readPart 20 = .ok (.aload_n 2, 1) := by decide +kernel
theorem dX6_readPart_21 : decode cX6_readPart 21 = .ok (.getfield 31, 3) := by decide +kernel
theorem dX6_readPart_24 : decode cX6_readPart 24 = .ok (.ifCond .le 10, 3) := by decide +kernel
theorem dX6_readPart_27 : decode cX6_readPart 27 = .ok (.aload_n 0, 1) := by decide +kernel
theorem dX6_readPart_28 : decode cX6_readPart 28 = .ok (.iload_n 1, 1) := by decide +kernel
theorem dX6_readPart_29 : decode cX6_readPart 29 = .ok (.aload_n 2, 1) := by decide +kernel
theorem dX6_readPart_30 : decode cX6_readPart 30 = .ok (.invokevirtual 44, 3) := by decide +kernel
theorem dX6_readPart_33 : decode cX6_readPart 33 = .ok (.ireturn, 1) := by decide +kernel
theorem dX6_readPart_34 : decode cX6_readPart 34 = .ok (.iload_n 3, 1) := by decide +kernel
theorem dX6_readPart_35 : decode cX6_readPart 35 = .ok (.bipush 71, 2) := by decide +kernel
theorem dX6_readPart_37 : decode cX6_readPart 37 = .ok (.if_icmp .ne 18, 3) := by decide +kernel
theorem dX6_readPart_40 : decode cX6_readPart 40 = .ok (.aload_n 2, 1) := by decide +kernel
theorem dX6_readPart_41 : decode cX6_readPart 41 = .ok (.getfield 47, 3) := by decide +kernel
theorem dX6_readPart_44 : decode cX6_readPart 44 = .ok (.iconst 4, 1) := by decide +kernel
theorem dX6_readPart_45 : decode cX6_readPart 45 = .ok (.if_icmp .ge 10, 3) := by decide +kernel
theorem dX6_readPart_48 : decode cX6_readPart 48 = .ok (.aload_n 0, 1) := by decide +kernel
theorem dX6_readPart_49 : decode cX6_readPart 49 = .ok (.iload_n 1, 1) := by decide +kernel
theorem dX6_readPart_50 : decode cX6_readPart 50 = .ok (.aload_n 2, 1) := by decide +kernel
theorem dX6_readPart_51 : decode cX6_readPart 51 = .ok (.invokevirtual 50, 3) := by decide +kernel
theorem dX6_readPart_54 : decode cX6_readPart 54 = .ok (.ireturn, 1) := by decide +kernel
theorem dX6_readPart_55 : decode cX6_readPart 55 = .ok (.iload_n 1, 1) := by decide +kernel
theorem dX6_readPart_56 : decode cX6_readPart 56 = .ok (.ireturn, 1) := by decide +kernel
theorem dX6_readCandle_0 : decode cX6_readCandle 0 = .ok (.aload_n 2, 1) := by decide +kernel
theorem dX6_readCandle_1 : decode cX6_readCandle 1 = .ok (.getfield 31, 3) := by decide +kernel
theorem dX6_readCandle_4 : decode cX6_readCandle 4 = .ok (.iconst 1, 1) := by decide +kernel
theorem dX6_readCandle_5 : decode cX6_readCandle 5 = .ok (.isub, 1) := by decide +kernel
theorem dX6_readCandle_6 : decode cX6_readCandle 6 = .ok (.istore_n 3, 1) := by decide +kernel
theorem dX6_readCandle_7 : decode cX6_readCandle 7 = .ok (.aload_n 0, 1) := by decide +kernel
theorem dX6_readCandle_8 : decode cX6_readCandle 8 = .ok (.iload_n 1, 1) := by decide +kernel
theorem dX6_readCandle_9 : decode cX6_readCandle 9 = .ok (.iconst 1, 1) := by decide +kernel
theorem dX6_readCandle_10 : decode cX6_readCandle 10 = .ok (.iadd, 1) := by decide +kernel
theorem dX6_readCandle_11 : decode cX6_readCandle 11 = .ok (.iconst 0, 1) := by decide +kernel
theorem dX6_readCandle_12 : decode cX6_readCandle 12 = .ok (.iload_n 3, 1) := by decide +kernel
theorem dX6_readCandle_13 : decode cX6_readCandle 13 = .ok (.bipush 10, 2) := by decide +kernel
theorem dX6_readCandle_15 : decode cX6_readCandle 15 = .ok (.idiv, 1) := by decide +kernel
theorem dX6_readCandle_16 : decode cX6_readCandle 16 = .ok (.invokevirtual 53, 3) := by decide +kernel
theorem dX6_readCandle_19 : decode cX6_readCandle 19 = .ok (.istore 4, 2) := by decide +kernel
theorem dX6_readCandle_21 : decode cX6_readCandle 21 = .ok (.iload 4, 2) := by decide +kernel
theorem dX6_readCandle_23 : decode cX6_readCandle 23 = .ok (.bipush (-9), 2) := by decide +kernel
theorem dX6_readCandle_25 : decode cX6_readCandle 25 = .ok (.if_icmp .ne 7, 3) := by decide +kernel
theorem dX6_readCandle_28 : decode cX6_readCandle 28 = .ok (.iload_n 1, 1) := by decide +kernel
theorem dX6_readCandle_29 : decode cX6_readCandle 29 = .ok (.iconst 1, 1) := by decide +kernel
theorem dX6_readCandle_30 : decode cX6_readCandle 30 = .ok (.iadd, 1) := by decide +kernel
theorem dX6_readCandle_31 : decode cX6_readCandle 31 = .ok (.ireturn, 1) := by decide +kernel
theorem dX6_readCandle_32 : decode cX6_readCandle 32 = .ok (.aload_n 0, 1) := by decide +kernel
theorem dX6_readCandle_33 : decode cX6_readCandle 33 = .ok (.iload_n 1, 1) := by decide +kernel
theorem dX6_readCandle_34 : decode cX6_readCandle 34 = .ok (.iconst 2, 1) := by decide +kernel
theorem dX6_readCandle_35 : decode cX6_readCandle 35 = .ok (.iadd, 1) := by decide +kernel
theorem dX6_readCandle_36 : decode cX6_readCandle 36 = .ok (.iconst 0, 1) := by decide +kernel
theorem dX6_readCandle_37 : decode cX6_readCandle 37 = .ok (.iload_n 3, 1) := by decide +kernel
theorem dX6_readCandle_38 : decode cX6_readCandle 38 = .ok (.bipush 10, 2) := by decide +kernel
theorem dX6_readCandle_40 : decode cX6_readCandle 40 = .ok (.iload 4, 2) := by decide +kernel
theorem dX6_readCandle_42 : decode cX6_readCandle 42 = .ok (.imul, 1) := by decide +kernel
theorem dX6_readCandle_43 : decode cX6_readCandle 43 = .ok (.isub, 1) := by decide +kernel
theorem dX6_readCandle_44 : decode cX6_readCandle 44 = .ok (.invokevirtual 53, 3) := by decide +kernel
theorem dX6_readCandle_47 : decode cX6_readCandle 47 = .ok (.istore 5, 2) := by decide +kernel
theorem dX6_readCandle_49 : decode cX6_readCandle 49 = .ok (.iload 5, 2) := by decide +kernel
theorem dX6_readCandle_51 : decode cX6_readCandle 51 = .ok (.bipush (-9), 2) := by decide +kernel
theorem dX6_readCandle_53 : decode cX6_readCandle 53 = .ok (.if_icmp .ne 7, 3) := by decide +kernel
theorem dX6_readCandle_56 : decode cX6_readCandle 56 = .ok (.iload_n 1, 1) := by decide +kernel
theorem dX6_readCandle_57 : decode cX6_readCandle 57 = .ok (.iconst 2, 1) := by decide +kernel
theorem dX6_readCandle_58 : decode cX6_readCandle 58 = .ok (.iadd, 1) := by decide +kernel
theorem dX6_readCandle_59 : decode cX6_readCandle 59 = .ok (.ireturn, 1) := by decide +kernel
theorem dX6_readCandle_60 : decode cX6_readCandle 60 = .ok (.bipush 10, 2) := by decide +kernel
theorem dX6_readCandle_62 : decode cX6_readCandle 62 = .ok (.iload 4, 2) := by decide +kernel
theorem dX6_readCandle_64 : decode cX6_readCandle 64 = .ok (.imul, 1) := by decide +kernel
theorem dX6_readCandle_65 : decode cX6_readCandle 65 = .ok (.iload 5, 2) := by decide +kernel
theorem dX6_readCandle_67 : decode cX6_readCandle 67 = .ok (.iadd, 1) := by decide +kernel
theorem dX6_readCandle_68 : decode cX6_readCandle 68 = .ok (.istore 6, 2) := by decide +kernel
theorem dX6_readCandle_70 : decode cX6_readCandle 70 = .ok (.aload_n 0, 1) := by decide +kernel
theorem dX6_readCandle_71 : decode cX6_readCandle 71 = .ok (.iload_n 1, 1) := by decide +kernel
theorem dX6_readCandle_72 : decode cX6_readCandle 72 = .ok (.iconst 3, 1) := by decide +kernel
theorem dX6_readCandle_73 : decode cX6_readCandle 73 = .ok (.iadd, 1) := by decide +kernel
theorem dX6_readCandle_74 : decode cX6_readCandle 74 = .ok (.iconst 1, 1) := by decide +kernel
theorem dX6_readCandle_75 : decode cX6_readCandle 75 = .ok (.bipush 6, 2) := by decide +kernel
theorem dX6_readCandle_77 : decode cX6_readCandle 77 = .ok (.aload_n 2, 1) := by decide +kernel
theorem dX6_readCandle_78 : decode cX6_readCandle 78 = .ok (.getfield 31, 3) := by decide +kernel
theorem dX6_readCandle_81 : decode cX6_readCandle 81 = .ok (.iload 6, 2) := by decide +kernel
theorem dX6_readCandle_83 : decode cX6_readCandle 83 = .ok (.isub, 1) := by decide +kernel
theorem dX6_readCandle_84 : decode cX6_readCandle 84 = .ok (.invokestatic 57, 3) := by decide +kernel
theorem dX6_readCandle_87 : decode cX6_readCandle 87 = .ok (.invokevirtual 53, 3) := by decide +kernel
theorem dX6_readCandle_90 : decode cX6_readCandle 90 = .ok (.istore 7, 2) := by decide +kernel
theorem dX6_readCandle_92 : decode cX6_readCandle 92 = .ok (.iload 7, 2) := by decide +kernel
theorem dX6_readCandle_94 : decode cX6_readCandle 94 = .ok (.bipush (-9), 2) := by decide +kernel
theorem dX6_readCandle_96 : decode cX6_readCandle 96 = .ok (.if_icmp .ne 7, 3) := by decide +kernel
theorem dX6_readCandle_99 : decode cX6_readCandle 99 = .ok (.iload_n 1, 1) := by decide +kernel
theorem dX6_readCandle_100 : decode cX6_readCandle 100 = .ok (.iconst 3, 1) := by decide +kernel
theorem dX6_readCandle_101 : decode cX6_readCandle 101 = .ok (.iadd, 1) := by decide +kernel
theorem dX6_readCandle_102 : decode cX6_readCandle 102 = .ok (.ireturn, 1) := by decide +kernel
theorem dX6_readCandle_103 : decode cX6_readCandle 103 = .ok (.aload_n 0, 1) := by decide +kernel
theorem dX6_readCandle_104 : decode cX6_readCandle 104 = .ok (.iload_n 1, 1) := by decide +kernel
theorem dX6_readCandle_105 : decode cX6_readCandle 105 = .ok (.iconst 4, 1) := by decide +kernel
theorem dX6_readCandle_106 : decode cX6_readCandle 106 = .ok (.iadd, 1) := by decide +kernel
theorem dX6_readCandle_107 : decode cX6_readCandle 107 = .ok (.iconst 1, 1) := by decide +kernel
theorem dX6_readCandle_108 : decode cX6_readCandle 108 = .ok (.bipush 9, 2) := by decide +kernel
theorem dX6_readCandle_110 : decode cX6_readCandle 110 = .ok (.invokevirtual 53, 3) := by decide +kernel
theorem dX6_readCandle_113 : decode cX6_readCandle 113 = .ok (.istore 8, 2) := by decide +kernel
theorem dX6_readCandle_115 : decode cX6_readCandle 115 = .ok (.iload 8, 2) := by decide +kernel
theorem dX6_readCandle_117 : decode cX6_readCandle 117 = .ok (.bipush (-9), 2) := by decide +kernel
theorem dX6_readCandle_119 : decode cX6_readCandle 119 = .ok (.if_icmp .ne 7, 3) := by decide +kernel
theorem dX6_readCandle_122 : decode cX6_readCandle 122 = .ok (.iload_n 1, 1) := by decide +kernel
theorem dX6_readCandle_123 : decode cX6_readCandle 123 = .ok (.iconst 4, 1) := by decide +kernel
theorem dX6_readCandle_124 : decode cX6_readCandle 124 = .ok (.iadd, 1) := by decide +kernel
theorem dX6_readCandle_125 : decode cX6_readCandle 125 = .ok (.ireturn, 1) := by decide +kernel
theorem dX6_readCandle_126 : decode cX6_readCandle 126 = .ok (.aload_n 2, 1) := by decide +kernel
theorem dX6_readCandle_127 : decode cX6_readCandle 127 = .ok (.getfield 63, 3) := by decide +kernel
theorem dX6_readCandle_130 : decode cX6_readCandle 130 = .ok (.aload_n 2, 1) := by decide +kernel
theorem dX6_readCandle_131 : decode cX6_readCandle 131 = .ok (.getfield 41, 3) := by decide +kernel
theorem dX6_readCandle_134 : decode cX6_readCandle 134 = .ok (.iload 6, 2) := by decide +kernel
theorem dX6_readCandle_136 : decode cX6_readCandle 136 = .ok (.iastore, 1) := by decide +kernel
theorem dX6_readCandle_137 : decode cX6_readCandle 137 = .ok (.aload_n 2, 1) := by decide +kernel
theorem dX6_readCandle_138 : decode cX6_readCandle 138 = .ok (.getfield 66, 3) := by decide +kernel
theorem dX6_readCandle_141 : decode cX6_readCandle 141 = .ok (.aload_n 2, 1) := by decide +kernel
theorem dX6_readCandle_142 : decode cX6_readCandle 142 = .ok (.getfield 41, 3) := by decide +kernel
theorem dX6_readCandle_145 : decode cX6_readCandle 145 = .ok (.iload 7, 2) := by decide +kernel
theorem dX6_readCandle_147 : decode cX6_readCandle 147 = .ok (.iastore, 1) := by decide +kernel
theorem dX6_readCandle_148 : decode cX6_readCandle 148 = .ok (.aload_n 2, 1) := by decide +kernel
theorem dX6_readCandle_149 : decode cX6_readCandle 149 = .ok (.getfield 69, 3) := by decide +kernel
theorem dX6_readCandle_152 : decode cX6_readCandle 152 = .ok (.aload_n 2, 1) := by decide +kernel
theorem dX6_readCandle_153 : decode cX6_readCandle 153 = .ok (.getfield 41, 3) := by decide +kernel
theorem dX6_readCandle_156 : decode cX6_readCandle 156 = .ok (.iload 8, 2) := by decide +kernel
theorem dX6_readCandle_158 : decode cX6_readCandle 158 = .ok (.iastore, 1) := by decide +kernel
theorem dX6_readCandle_159 : decode cX6_readCandle 159 = .ok (.aload_n 2, 1) := by decide +kernel
theorem dX6_readCandle_160 : decode cX6_readCandle 160 = .ok (.dup, 1) := by decide +kernel
theorem dX6_readCandle_161 : decode cX6_readCandle 161 = .ok (.getfield 41, 3) := by decide +kernel
theorem dX6_readCandle_164 : decode cX6_readCandle 164 = .ok (.iconst 1, 1) := by decide +kernel
theorem dX6_readCandle_165 : decode cX6_readCandle 165 = .ok (.iadd, 1) := by decide +kernel
theorem dX6_readCandle_166 : decode cX6_readCandle 166 = .ok (.putfield 41, 3) := by decide +kernel
theorem dX6_readCandle_169 : decode cX6_readCandle 169 = .ok (.bipush (-9), 2) := by decide +kernel
theorem dX6_readCandle_171 : decode cX6_readCandle 171 = .ok (.ireturn, 1) := by decide +kernel
theorem dX6_readGuest_0 : decode cX6_readGuest 0 = .ok (.aload_n 0, 1) := by decide +kernel
theorem dX6_readGuest_1 : decode cX6_readGuest 1 = .ok (.iload_n 1, 1) := by decide +kernel
theorem dX6_readGuest_2 : decode cX6_readGuest 2 = .ok (.iconst 1, 1) := by decide +kernel
theorem dX6_readGuest_3 : decode cX6_readGuest 3 = .ok (.iadd, 1) := by decide +kernel
theorem dX6_readGuest_4 : decode cX6_readGuest 4 = .ok (.invokevirtual 28, 3) := by decide +kernel
theorem dX6_readGuest_7 : decode cX6_readGuest 7 = .ok (.istore_n 3, 1) := by decide +kernel
theorem dX6_readGuest_8 : decode cX6_readGuest 8 = .ok (.iload_n 3, 1) := by decide +kernel
theorem dX6_readGuest_9 : decode cX6_readGuest 9 = .ok (.bipush (-9), 2) := by decide +kernel
theorem dX6_readGuest_11 : decode cX6_readGuest 11 = .ok (.if_icmp .eq 8, 3) := by decide +kernel
theorem dX6_readGuest_14 : decode cX6_readGuest 14 = .ok (.iload_n 3, 1) := by decide +kernel
theorem dX6_readGuest_15 : decode cX6_readGuest 15 = .ok (.iconst 4, 1) := by decide +kernel
theorem dX6_readGuest_16 : decode cX6_readGuest 16 = .ok (.if_icmp .ne 7, 3) := by decide +kernel
theorem dX6_readGuest_19 : decode cX6_readGuest 19 = .ok (.iload_n 1, 1) := by decide +kernel
theorem dX6_readGuest_20 : decode cX6_readGuest 20 = .ok (.iconst 1, 1) := by decide +kernel
theorem dX6_readGuest_21 : decode cX6_readGuest 21 = .ok (.iadd, 1) := by decide +kernel
theorem dX6_readGuest_22 : decode cX6_readGuest 22 = .ok (.ireturn, 1) := by decide +kernel
theorem dX6_readGuest_23 : decode cX6_readGuest 23 = .ok (.aload_n 0, 1) := by decide +kernel
theorem dX6_readGuest_24 : decode cX6_readGuest 24 = .ok (.iload_n 1, 1) := by decide +kernel
theorem dX6_readGuest_25 : decode cX6_readGuest 25 = .ok (.iconst 2, 1) := by decide +kernel
theorem dX6_readGuest_26 : decode cX6_readGuest 26 = .ok (.iadd, 1) := by decide +kernel
theorem dX6_readGuest_27 : decode cX6_readGuest 27 = .ok (.iconst 1, 1) := by decide +kernel
theorem dX6_readGuest_28 : decode cX6_readGuest 28 = .ok (.bipush 6, 2) := by decide +kernel
theorem dX6_readGuest_30 : decode cX6_readGuest 30 = .ok (.invokevirtual 53, 3) := by decide +kernel
theorem dX6_readGuest_33 : decode cX6_readGuest 33 = .ok (.istore 4, 2) := by decide +kernel
theorem dX6_readGuest_35 : decode cX6_readGuest 35 = .ok (.iload 4, 2) := by decide +kernel
theorem dX6_readGuest_37 : decode cX6_readGuest 37 = .ok (.bipush (-9), 2) := by decide +kernel
theorem dX6_readGuest_39 : decode cX6_readGuest 39 = .ok (.if_icmp .ne 7, 3) := by decide +kernel
theorem dX6_readGuest_42 : decode cX6_readGuest 42 = .ok (.iload_n 1, 1) := by decide +kernel
theorem dX6_readGuest_43 : decode cX6_readGuest 43 = .ok (.iconst 2, 1) := by decide +kernel
theorem dX6_readGuest_44 : decode cX6_readGuest 44 = .ok (.iadd, 1) := by decide +kernel
theorem dX6_readGuest_45 : decode cX6_readGuest 45 = .ok (.ireturn, 1) := by decide +kernel
theorem dX6_readGuest_46 : decode cX6_readGuest 46 = .ok (.aload_n 0, 1) := by decide +kernel
theorem dX6_readGuest_47 : decode cX6_readGuest 47 = .ok (.iload_n 1, 1) := by decide +kernel
theorem dX6_readGuest_48 : decode cX6_readGuest 48 = .ok (.iconst 3, 1) := by decide +kernel
theorem dX6_readGuest_49 : decode cX6_readGuest 49 = .ok (.iadd, 1) := by decide +kernel
theorem dX6_readGuest_50 : decode cX6_readGuest 50 = .ok (.iconst 0, 1) := by decide +kernel
theorem dX6_readGuest_51 : decode cX6_readGuest 51 = .ok (.bipush 9, 2) := by decide +kernel
theorem dX6_readGuest_53 : decode cX6_readGuest 53 = .ok (.invokevirtual 53, 3) := by decide +kernel
theorem dX6_readGuest_56 : decode cX6_readGuest 56 = .ok (.istore 5, 2) := by decide +kernel
theorem dX6_readGuest_58 : decode cX6_readGuest 58 = .ok (.iload 5, 2) := by decide +kernel
theorem dX6_readGuest_60 : decode cX6_readGuest 60 = .ok (.bipush (-9), 2) := by decide +kernel
theorem dX6_readGuest_62 : decode cX6_readGuest 62 = .ok (.if_icmp .ne 7, 3) := by decide +kernel
theorem dX6_readGuest_65 : decode cX6_readGuest 65 = .ok (.iload_n 1, 1) := by decide +kernel
theorem dX6_readGuest_66 : decode cX6_readGuest 66 = .ok (.iconst 3, 1) := by decide +kernel
theorem dX6_readGuest_67 : decode cX6_readGuest 67 = .ok (.iadd, 1) := by decide +kernel
theorem dX6_readGuest_68 : decode cX6_readGuest 68 = .ok (.ireturn, 1) := by decide +kernel
theorem dX6_readGuest_69 : decode cX6_readGuest 69 = .ok (.aload_n 0, 1) := by decide +kernel
theorem dX6_readGuest_70 : decode cX6_readGuest 70 = .ok (.iload_n 1, 1) := by decide +kernel
theorem dX6_readGuest_71 : decode cX6_readGuest 71 = .ok (.iconst 4, 1) := by decide +kernel
theorem dX6_readGuest_72 : decode cX6_readGuest 72 = .ok (.iadd, 1) := by decide +kernel
theorem dX6_readGuest_73 : decode cX6_readGuest 73 = .ok (.iload 5, 2) := by decide +kernel
theorem dX6_readGuest_75 : decode cX6_readGuest 75 = .ok (.bipush 9, 2) := by decide +kernel
theorem dX6_readGuest_77 : decode cX6_readGuest 77 = .ok (.invokevirtual 53, 3) := by decide +kernel
theorem dX6_readGuest_80 : decode cX6_readGuest 80 = .ok (.istore 6, 2) := by decide +kernel
theorem dX6_readGuest_82 : decode cX6_readGuest 82 = .ok (.iload 6, 2) := by decide +kernel
theorem dX6_readGuest_84 : decode cX6_readGuest 84 = .ok (.bipush (-9), 2) := by decide +kernel
theorem dX6_readGuest_86 : decode cX6_readGuest 86 = .ok (.if_icmp .ne 7, 3) := by decide +kernel
theorem dX6_readGuest_89 : decode cX6_readGuest 89 = .ok (.iload_n 1, 1) := by decide +kernel
theorem dX6_readGuest_90 : decode cX6_readGuest 90 = .ok (.iconst 4, 1) := by decide +kernel
theorem dX6_readGuest_91 : decode cX6_readGuest 91 = .ok (.iadd, 1) := by decide +kernel
theorem dX6_readGuest_92 : decode cX6_readGuest 92 = .ok (.ireturn, 1) := by decide +kernel
theorem dX6_readGuest_93 : decode cX6_readGuest 93 = .ok (.aload_n 2, 1) := by decide +kernel
theorem dX6_readGuest_94 : decode cX6_readGuest 94 = .ok (.getfield 72, 3) := by decide +kernel
theorem dX6_readGuest_97 : decode cX6_readGuest 97 = .ok (.aload_n 2, 1) := by decide +kernel
theorem dX6_readGuest_98 : decode cX6_readGuest 98 = .ok (.getfield 47, 3) := by decide +kernel
theorem dX6_readGuest_101 : decode cX6_readGuest 101 = .ok (.iload_n 3, 1) := by decide +kernel
theorem dX6_readGuest_102 : decode cX6_readGuest 102 = .ok (.iastore, 1) := by decide +kernel
theorem dX6_readGuest_103 : decode cX6_readGuest 103 = .ok (.aload_n 2, 1) := by decide +kernel
theorem dX6_readGuest_104 : decode cX6_readGuest 104 = .ok (.getfield 75, 3) := by decide +kernel
theorem dX6_readGuest_107 : decode cX6_readGuest 107 = .ok (.aload_n 2, 1) := by decide +kernel
theorem dX6_readGuest_108 : decode cX6_readGuest 108 = .ok (.getfield 47, 3) := by decide +kernel
theorem dX6_readGuest_111 : decode cX6_readGuest 111 = .ok (.iload 4, 2) := by decide +kernel
theorem dX6_readGuest_113 : decode cX6_readGuest 113 = .ok (.iastore, 1) := by decide +kernel
theorem dX6_readGuest_114 : decode cX6_readGuest 114 = .ok (.aload_n 2, 1) := by decide +kernel
theorem dX6_readGuest_115 : decode cX6_readGuest 115 = .ok (.getfield 78, 3) := by decide +kernel
theorem dX6_readGuest_118 : decode cX6_readGuest 118 = .ok (.aload_n 2, 1) := by decide +kernel
theorem dX6_readGuest_119 : decode cX6_readGuest 119 = .ok (.getfield 47, 3) := by decide +kernel
theorem dX6_readGuest_122 : decode cX6_readGuest 122 = .ok (.iload 5, 2) := by decide +kernel
theorem dX6_readGuest_124 : decode cX6_readGuest 124 = .ok (.iastore, 1) := by decide +kernel
theorem dX6_readGuest_125 : decode cX6_readGuest 125 = .ok (.aload_n 2, 1) := by decide +kernel
theorem dX6_readGuest_126 : decode cX6_readGuest 126 = .ok (.getfield 81, 3) := by decide +kernel
theorem dX6_readGuest_129 : decode cX6_readGuest 129 = .ok (.aload_n 2, 1) := by decide +kernel
theorem dX6_readGuest_130 : decode cX6_readGuest 130 = .ok (.getfield 47, 3) := by decide +kernel
theorem dX6_readGuest_133 : decode cX6_readGuest 133 = .ok (.iload 6, 2) := by decide +kernel
theorem dX6_readGuest_135 : decode cX6_readGuest 135 = .ok (.iastore, 1) := by decide +kernel
theorem dX6_readGuest_136 : decode cX6_readGuest 136 = .ok (.aload_n 2, 1) := by decide +kernel
theorem dX6_readGuest_137 : decode cX6_readGuest 137 = .ok (.dup, 1) := by decide +kernel
theorem dX6_readGuest_138 : decode cX6_readGuest 138 = .ok (.getfield 47, 3) := by decide +kernel
theorem dX6_readGuest_141 : decode cX6_readGuest 141 = .ok (.iconst 1, 1) := by decide +kernel
theorem dX6_readGuest_142 : decode cX6_readGuest 142 = .ok (.iadd, 1) := by decide +kernel
theorem dX6_readGuest_143 : decode cX6_readGuest 143 = .ok (.putfield 47, 3) := by decide +kernel
theorem dX6_readGuest_146 : decode cX6_readGuest 146 = .ok (.bipush (-9), 2) := by decide +kernel
theorem dX6_readGuest_148 : decode cX6_readGuest 148 = .ok (.ireturn, 1) := by decide +kernel
theorem dX6_letterAt_0 : decode cX6_letterAt 0 = .ok (.iload_n 1, 1) := by decide +kernel
theorem dX6_letterAt_1 : decode cX6_letterAt 1 = .ok (.ifCond .lt 20, 3) := by decide +kernel
theorem dX6_letterAt_4 : decode cX6_letterAt 4 = .ok (.iload_n 1, 1) := by decide +kernel
theorem dX6_letterAt_5 : decode cX6_letterAt 5 = .ok (.aload_n 0, 1) := by decide +kernel
theorem dX6_letterAt_6 : decode cX6_letterAt 6 = .ok (.getfield 15, 3) := by decide +kernel
theorem dX6_letterAt_9 : decode cX6_letterAt 9 = .ok (.if_icmp .ge 12, 3) := by decide +kernel
theorem dX6_letterAt_12 : decode cX6_letterAt 12 = .ok (.aload_n 0, 1) := by decide +kernel
theorem dX6_letterAt_13 : decode cX6_letterAt 13 = .ok (.getfield 9, 3) := by decide +kernel
theorem dX6_letterAt_16 : decode cX6_letterAt 16 = .ok (.iload_n 1, 1) := by decide +kernel
theorem dX6_letterAt_17 : decode cX6_letterAt 17 = .ok (.iaload, 1) := by decide +kernel
theorem dX6_letterAt_18 : decode cX6_letterAt 18 = .ok (.goto 5, 3) := by decide +kernel
theorem dX6_letterAt_21 : decode cX6_letterAt 21 = .ok (.bipush (-9), 2) := by decide +kernel
theorem dX6_letterAt_23 : decode cX6_letterAt 23 = .ok (.ireturn, 1) := by decide +kernel
theorem dX6_momentAt_0 : decode cX6_momentAt 0 = .ok (.aload_n 0, 1) := by decide +kernel
theorem dX6_momentAt_1 : decode cX6_momentAt 1 = .ok (.iload_n 1, 1) := by decide +kernel
theorem dX6_momentAt_2 : decode cX6_momentAt 2 = .ok (.invokevirtual 24, 3) := by decide +kernel
theorem dX6_momentAt_5 : decode cX6_momentAt 5 = .ok (.istore_n 2, 1) := by decide +kernel
theorem dX6_momentAt_6 : decode cX6_momentAt 6 = .ok (.iload_n 2, 1) := by decide +kernel
theorem dX6_momentAt_7 : decode cX6_momentAt 7 = .ok (.bipush 45, 2) := by decide +kernel
theorem dX6_momentAt_9 : decode cX6_momentAt 9 = .ok (.if_icmp .ne 5, 3) := by decide +kernel
theorem dX6_momentAt_12 : decode cX6_momentAt 12 = .ok (.iconst 4, 1) := by decide +kernel
theorem dX6_momentAt_13 : decode cX6_momentAt 13 = .ok (.ireturn, 1) := by decide +kernel
theorem dX6_momentAt_14 : decode cX6_momentAt 14 = .ok (.iload_n 2, 1) := by decide +kernel
theorem dX6_momentAt_15 : decode cX6_momentAt 15 = .ok (.bipush 97, 2) := by decide +kernel
theorem dX6_momentAt_17 : decode cX6_momentAt 17 = .ok (.if_icmp .lt 16, 3) := by decide +kernel
theorem dX6_momentAt_20 : decode cX6_momentAt 20 = .ok (.iload_n 2, 1) := by decide +kernel
theorem dX6_momentAt_21 : decode cX6_momentAt 21 = .ok (.bipush 100, 2) := by decide +kernel
theorem dX6_momentAt_23 : decode cX6_momentAt 23 = .ok (.if_icmp .gt 10, 3) := by decide +kernel
theorem dX6_momentAt_26 : decode cX6_momentAt 26 = .ok (.iload_n 2, 1) := by decide +kernel
theorem dX6_momentAt_27 : decode cX6_momentAt 27 = .ok (.bipush 97, 2) := by decide +kernel
theorem dX6_momentAt_29 : decode cX6_momentAt 29 = .ok (.isub, 1) := by decide +kernel
theorem dX6_momentAt_30 : decode cX6_momentAt 30 = .ok (.goto 5, 3) := by decide +kernel
theorem dX6_momentAt_33 : decode cX6_momentAt 33 = .ok (.bipush (-9), 2) := by decide +kernel
theorem dX6_momentAt_35 : decode cX6_momentAt 35 = .ok (.ireturn, 1) := by decide +kernel
theorem dX6_figureAt_0 : decode cX6_figureAt 0 = .ok (.aload_n 0, 1) := by decide +kernel
theorem dX6_figureAt_1 : decode cX6_figureAt 1 = .ok (.iload_n 1, 1) := by decide +kernel
theorem dX6_figureAt_2 : decode cX6_figureAt 2 = .ok (.invokevirtual 24, 3) := by decide +kernel
theorem dX6_figureAt_5 : decode cX6_figureAt 5 = .ok (.istore 4, 2) := by decide +kernel
theorem dX6_figureAt_7 : decode cX6_figureAt 7 = .ok (.iload 4, 2) := by decide +kernel
theorem dX6_figureAt_9 : decode cX6_figureAt 9 = .ok (.bipush 48, 2) := by decide +kernel
theorem dX6_figureAt_11 : decode cX6_figureAt 11 = .ok (.if_icmp .lt 32, 3) := by decide +kernel
theorem dX6_figureAt_14 : decode cX6_figureAt 14 = .ok (.iload 4, 2) := by decide +kernel
theorem dX6_figureAt_16 : decode cX6_figureAt 16 = .ok (.bipush 57, 2) := by decide +kernel
theorem dX6_figureAt_18 : decode cX6_figureAt 18 = .ok (.if_icmp .gt 25, 3) := by decide +kernel
theorem dX6_figureAt_21 : decode cX6_figureAt 21 = .ok (.iload 4, 2) := by decide +kernel
theorem dX6_figureAt_23 : decode cX6_figureAt 23 = .ok (.bipush 48, 2) := by decide +kernel
theorem dX6_figureAt_25 : decode cX6_figureAt 25 = .ok (.isub, 1) := by decide +kernel
theorem dX6_figureAt_26 : decode cX6_figureAt 26 = .ok (.iload_n 2, 1) := by decide +kernel
theorem dX6_figureAt_27 : decode cX6_figureAt 27 = .ok (.if_icmp .lt 16, 3) := by decide +kernel
theorem dX6_figureAt_30 : decode cX6_figureAt 30 = .ok (.iload 4, 2) := by decide +kernel
theorem dX6_figureAt_32 : decode cX6_figureAt 32 = .ok (.bipush 48, 2) := by decide +kernel
theorem dX6_figureAt_34 : decode cX6_figureAt 34 = .ok (.isub, 1) := by decide +kernel
theorem dX6_figureAt_35 : decode cX6_figureAt 35 = .ok (.iload_n 3, 1) := by decide +kernel
theorem dX6_figureAt_36 : decode cX6_figureAt 36 = .ok (.if_icmp .gt 7, 3) := by decide +kernel
theorem dX6_figureAt_39 : decode cX6_figureAt 39 = .ok (.iconst 1, 1) := by decide +kernel
theorem dX6_figureAt_40 : decode cX6_figureAt 40 = .ok (.goto 4, 3) := by decide +kernel
theorem dX6_figureAt_43 : decode cX6_figureAt 43 = .ok (.iconst 0, 1) := by decide +kernel
theorem dX6_figureAt_44 : decode cX6_figureAt 44 = .ok (.istore 5, 2) := by decide +kernel
theorem dX6_figureAt_46 : decode cX6_figureAt 46 = .ok (.iload 5, 2) := by decide +kernel
theorem dX6_figureAt_48 : decode cX6_figureAt 48 = .ok (.ifCond .eq 11, 3) := by decide +kernel
theorem dX6_figureAt_51 : decode cX6_figureAt 51 = .ok (.iload 4, 2) := by decide +kernel
theorem dX6_figureAt_53 : decode cX6_figureAt 53 = .ok (.bipush 48, 2) := by decide +kernel
theorem dX6_figureAt_55 : decode cX6_figureAt 55 = .ok (.isub, 1) := by decide +kernel
theorem dX6_figureAt_56 : decode cX6_figureAt 56 = .ok (.goto 5, 3) := by decide +kernel
theorem dX6_figureAt_59 : decode cX6_figureAt 59 = .ok (.bipush (-9), 2) := by decide +kernel
theorem dX6_figureAt_61 : decode cX6_figureAt 61 = .ok (.ireturn, 1) := by decide +kernel
theorem dJ6_numberOfLeadingZeros_0f7a4_0 : decode cJ6_numberOfLeadingZeros_0f7a4 0 = .ok (.iload_n 0, 1) := by decide +kernel
theorem dJ6_numberOfLeadingZeros_0f7a4_1 : decode cJ6_numberOfLeadingZeros_0f7a4 1 = .ok (.ifCond .gt 14, 3) := by decide +kernel
theorem dJ6_numberOfLeadingZeros_0f7a4_4 : decode cJ6_numberOfLeadingZeros_0f7a4 4 = .ok (.iload_n 0, 1) := by decide +kernel
theorem dJ6_numberOfLeadingZeros_0f7a4_5 : decode cJ6_numberOfLeadingZeros_0f7a4 5 = .ok (.ifCond .ne 8, 3) := by decide +kernel
theorem dJ6_numberOfLeadingZeros_0f7a4_8 : decode cJ6_numberOfLeadingZeros_0f7a4 8 = .ok (.bipush 32, 2) := by decide +kernel
theorem dJ6_numberOfLeadingZeros_0f7a4_10 : decode cJ6_numberOfLeadingZeros_0f7a4 10 = .ok (.goto 4, 3) := by decide +kernel
theorem dJ6_numberOfLeadingZeros_0f7a4_13 : decode cJ6_numberOfLeadingZeros_0f7a4 13 = .ok (.iconst 0, 1) := by decide +kernel
theorem dJ6_numberOfLeadingZeros_0f7a4_14 : decode cJ6_numberOfLeadingZeros_0f7a4 14 = .ok (.ireturn, 1) := by decide +kernel
theorem dJ6_numberOfLeadingZeros_0f7a4_15 : decode cJ6_numberOfLeadingZeros_0f7a4 15 = .ok (.bipush 31, 2) := by decide +kernel
theorem dJ6_numberOfLeadingZeros_0f7a4_17 : decode cJ6_numberOfLeadingZeros_0f7a4 17 = .ok (.istore_n 1, 1) := by decide +kernel
theorem dJ6_numberOfLeadingZeros_0f7a4_18 : decode cJ6_numberOfLeadingZeros_0f7a4 18 = .ok (.iload_n 0, 1) := by decide +kernel
theorem dJ6_numberOfLeadingZeros_0f7a4_19 : decode cJ6_numberOfLeadingZeros_0f7a4 19 = .ok (.ldc_w 264, 3) := by decide +kernel
theorem dJ6_numberOfLeadingZeros_0f7a4_22 : decode cJ6_numberOfLeadingZeros_0f7a4 22 = .ok (.if_icmp .lt 11, 3) := by decide +kernel
theorem dJ6_numberOfLeadingZeros_0f7a4_25 : decode cJ6_numberOfLeadingZeros_0f7a4 25 = .ok (.iinc 1 (-16), 3) := by decide +kernel
theorem dJ6_numberOfLeadingZeros_0f7a4_28 : decode cJ6_numberOfLeadingZeros_0f7a4 28 = .ok (.iload_n 0, 1) := by decide +kernel
theorem dJ6_numberOfLeadingZeros_0f7a4_29 : decode cJ6_numberOfLeadingZeros_0f7a4 29 = .ok (.bipush 16, 2) := by decide +kernel
theorem dJ6_numberOfLeadingZeros_0f7a4_31 : decode cJ6_numberOfLeadingZeros_0f7a4 31 = .ok (.iushr, 1) := by decide +kernel
theorem dJ6_numberOfLeadingZeros_0f7a4_32 : decode cJ6_numberOfLeadingZeros_0f7a4 32 = .ok (.istore_n 0, 1) := by decide +kernel
theorem dJ6_numberOfLeadingZeros_0f7a4_33 : decode cJ6_numberOfLeadingZeros_0f7a4 33 = .ok (.iload_n 0, 1) := by decide +kernel
theorem dJ6_numberOfLeadingZeros_0f7a4_34 : decode cJ6_numberOfLeadingZeros_0f7a4 34 = .ok (.sipush 256, 3) := by decide +kernel
theorem dJ6_numberOfLeadingZeros_0f7a4_37 : decode cJ6_numberOfLeadingZeros_0f7a4 37 = .ok (.if_icmp .lt 11, 3) := by decide +kernel
theorem dJ6_numberOfLeadingZeros_0f7a4_40 : decode cJ6_numberOfLeadingZeros_0f7a4 40 = .ok (.iinc 1 (-8), 3) := by decide +kernel
theorem dJ6_numberOfLeadingZeros_0f7a4_43 : decode cJ6_numberOfLeadingZeros_0f7a4 43 = .ok (.iload_n 0, 1) := by decide +kernel
theorem dJ6_numberOfLeadingZeros_0f7a4_44 : decode cJ6_numberOfLeadingZeros_0f7a4 44 = .ok (.bipush 8, 2) := by decide +kernel
theorem dJ6_numberOfLeadingZeros_0f7a4_46 : decode cJ6_numberOfLeadingZeros_0f7a4 46 = .ok (.iushr, 1) := by decide +kernel
theorem dJ6_numberOfLeadingZeros_0f7a4_47 : decode cJ6_numberOfLeadingZeros_0f7a4 47 = .ok (.istore_n 0, 1) := by decide +kernel
theorem dJ6_numberOfLeadingZeros_0f7a4_48 : decode cJ6_numberOfLeadingZeros_0f7a4 48 = .ok (.iload_n 0, 1) := by decide +kernel
theorem dJ6_numberOfLeadingZeros_0f7a4_49 : decode cJ6_numberOfLeadingZeros_0f7a4 49 = .ok (.bipush 16, 2) := by decide +kernel
theorem dJ6_numberOfLeadingZeros_0f7a4_51 : decode cJ6_numberOfLeadingZeros_0f7a4 51 = .ok (.if_icmp .lt 10, 3) := by decide +kernel
theorem dJ6_numberOfLeadingZeros_0f7a4_54 : decode cJ6_numberOfLeadingZeros_0f7a4 54 = .ok (.iinc 1 (-4), 3) := by decide +kernel
theorem dJ6_numberOfLeadingZeros_0f7a4_57 : decode cJ6_numberOfLeadingZeros_0f7a4 57 = .ok (.iload_n 0, 1) := by decide +kernel
theorem dJ6_numberOfLeadingZeros_0f7a4_58 : decode cJ6_numberOfLeadingZeros_0f7a4 58 = .ok (.iconst 4, 1) := by decide +kernel
theorem dJ6_numberOfLeadingZeros_0f7a4_59 : decode cJ6_numberOfLeadingZeros_0f7a4 59 = .ok (.iushr, 1) := by decide +kernel
theorem dJ6_numberOfLeadingZeros_0f7a4_60 : decode cJ6_numberOfLeadingZeros_0f7a4 60 = .ok (.istore_n 0, 1) := by decide +kernel
theorem dJ6_numberOfLeadingZeros_0f7a4_61 : decode cJ6_numberOfLeadingZeros_0f7a4 61 = .ok (.iload_n 0, 1) := by decide +kernel
theorem dJ6_numberOfLeadingZeros_0f7a4_62 : decode cJ6_numberOfLeadingZeros_0f7a4 62 = .ok (.iconst 4, 1) := by decide +kernel
theorem dJ6_numberOfLeadingZeros_0f7a4_63 : decode cJ6_numberOfLeadingZeros_0f7a4 63 = .ok (.if_icmp .lt 10, 3) := by decide +kernel
theorem dJ6_numberOfLeadingZeros_0f7a4_66 : decode cJ6_numberOfLeadingZeros_0f7a4 66 = .ok (.iinc 1 (-2), 3) := by decide +kernel
theorem dJ6_numberOfLeadingZeros_0f7a4_69 : decode cJ6_numberOfLeadingZeros_0f7a4 69 = .ok (.iload_n 0, 1) := by decide +kernel
theorem dJ6_numberOfLeadingZeros_0f7a4_70 : decode cJ6_numberOfLeadingZeros_0f7a4 70 = .ok (.iconst 2, 1) := by decide +kernel
theorem dJ6_numberOfLeadingZeros_0f7a4_71 : decode cJ6_numberOfLeadingZeros_0f7a4 71 = .ok (.iushr, 1) := by decide +kernel
theorem dJ6_numberOfLeadingZeros_0f7a4_72 : decode cJ6_numberOfLeadingZeros_0f7a4 72 = .ok (.istore_n 0, 1) := by decide +kernel
theorem dJ6_numberOfLeadingZeros_0f7a4_73 : decode cJ6_numberOfLeadingZeros_0f7a4 73 = .ok (.iload_n 1, 1) := by decide +kernel
theorem dJ6_numberOfLeadingZeros_0f7a4_74 : decode cJ6_numberOfLeadingZeros_0f7a4 74 = .ok (.iload_n 0, 1) := by decide +kernel
theorem dJ6_numberOfLeadingZeros_0f7a4_75 : decode cJ6_numberOfLeadingZeros_0f7a4 75 = .ok (.iconst 1, 1) := by decide +kernel
theorem dJ6_numberOfLeadingZeros_0f7a4_76 : decode cJ6_numberOfLeadingZeros_0f7a4 76 = .ok (.iushr, 1) := by decide +kernel
theorem dJ6_numberOfLeadingZeros_0f7a4_77 : decode cJ6_numberOfLeadingZeros_0f7a4 77 = .ok (.isub, 1) := by decide +kernel
theorem dJ6_numberOfLeadingZeros_0f7a4_78 : decode cJ6_numberOfLeadingZeros_0f7a4 78 = .ok (.ireturn, 1) := by decide +kernel
theorem dJ6_numberOfTrailingZeros_0f7a4_0 : decode cJ6_numberOfTrailingZeros_0f7a4 0 = .ok (.iload_n 0, 1) := by decide +kernel
theorem dJ6_numberOfTrailingZeros_0f7a4_1 : decode cJ6_numberOfTrailingZeros_0f7a4 1 = .ok (.iconst (-1), 1) := by decide +kernel
theorem dJ6_numberOfTrailingZeros_0f7a4_2 : decode cJ6_numberOfTrailingZeros_0f7a4 2 = .ok (.ixor, 1) := by decide +kernel
theorem dJ6_numberOfTrailingZeros_0f7a4_3 : decode cJ6_numberOfTrailingZeros_0f7a4 3 = .ok (.iload_n 0, 1) := by decide +kernel
theorem dJ6_numberOfTrailingZeros_0f7a4_4 : decode cJ6_numberOfTrailingZeros_0f7a4 4 = .ok (.iconst 1, 1) := by decide +kernel
theorem dJ6_numberOfTrailingZeros_0f7a4_5 : decode cJ6_numberOfTrailingZeros_0f7a4 5 = .ok (.isub, 1) := by decide +kernel
theorem dJ6_numberOfTrailingZeros_0f7a4_6 : decode cJ6_numberOfTrailingZeros_0f7a4 6 = .ok (.iand, 1) := by decide +kernel
theorem dJ6_numberOfTrailingZeros_0f7a4_7 : decode cJ6_numberOfTrailingZeros_0f7a4 7 = .ok (.istore_n 0, 1) := by decide +kernel
theorem dJ6_numberOfTrailingZeros_0f7a4_8 : decode cJ6_numberOfTrailingZeros_0f7a4 8 = .ok (.iload_n 0, 1) := by decide +kernel
theorem dJ6_numberOfTrailingZeros_0f7a4_9 : decode cJ6_numberOfTrailingZeros_0f7a4 9 = .ok (.ifCond .gt 8, 3) := by decide +kernel
theorem dJ6_numberOfTrailingZeros_0f7a4_12 : decode cJ6_numberOfTrailingZeros_0f7a4 12 = .ok (.iload_n 0, 1) := by decide +kernel
theorem dJ6_numberOfTrailingZeros_0f7a4_13 : decode cJ6_numberOfTrailingZeros_0f7a4 13 = .ok (.bipush 32, 2) := by decide +kernel
theorem dJ6_numberOfTrailingZeros_0f7a4_15 : decode cJ6_numberOfTrailingZeros_0f7a4 15 = .ok (.iand, 1) := by decide +kernel
theorem dJ6_numberOfTrailingZeros_0f7a4_16 : decode cJ6_numberOfTrailingZeros_0f7a4 16 = .ok (.ireturn, 1) := by decide +kernel
theorem dJ6_numberOfTrailingZeros_0f7a4_17 : decode cJ6_numberOfTrailingZeros_0f7a4 17 = .ok (.iconst 1, 1) := by decide +kernel
theorem dJ6_numberOfTrailingZeros_0f7a4_18 : decode cJ6_numberOfTrailingZeros_0f7a4 18 = .ok (.istore_n 1, 1) := by decide +kernel
theorem dJ6_numberOfTrailingZeros_0f7a4_19 : decode cJ6_numberOfTrailingZeros_0f7a4 19 = .ok (.iload_n 0, 1) := by decide +kernel
theorem dJ6_numberOfTrailingZeros_0f7a4_20 : decode cJ6_numberOfTrailingZeros_0f7a4 20 = .ok (.ldc_w 264, 3) := by decide +kernel
theorem dJ6_numberOfTrailingZeros_0f7a4_23 : decode cJ6_numberOfTrailingZeros_0f7a4 23 = .ok (.if_icmp .le 11, 3) := by decide +kernel
theorem dJ6_numberOfTrailingZeros_0f7a4_26 : decode cJ6_numberOfTrailingZeros_0f7a4 26 = .ok (.iinc 1 16, 3) := by decide +kernel
theorem dJ6_numberOfTrailingZeros_0f7a4_29 : decode cJ6_numberOfTrailingZeros_0f7a4 29 = .ok (.iload_n 0, 1) := by decide +kernel
theorem dJ6_numberOfTrailingZeros_0f7a4_30 : decode cJ6_numberOfTrailingZeros_0f7a4 30 = .ok (.bipush 16, 2) := by decide +kernel
theorem dJ6_numberOfTrailingZeros_0f7a4_32 : decode cJ6_numberOfTrailingZeros_0f7a4 32 = .ok (.iushr, 1) := by decide +kernel
theorem dJ6_numberOfTrailingZeros_0f7a4_33 : decode cJ6_numberOfTrailingZeros_0f7a4 33 = .ok (.istore_n 0, 1) := by decide +kernel
theorem dJ6_numberOfTrailingZeros_0f7a4_34 : decode cJ6_numberOfTrailingZeros_0f7a4 34 = .ok (.iload_n 0, 1) := by decide +kernel
theorem dJ6_numberOfTrailingZeros_0f7a4_35 : decode cJ6_numberOfTrailingZeros_0f7a4 35 = .ok (.sipush 256, 3) := by decide +kernel
theorem dJ6_numberOfTrailingZeros_0f7a4_38 : decode cJ6_numberOfTrailingZeros_0f7a4 38 = .ok (.if_icmp .le 11, 3) := by decide +kernel
theorem dJ6_numberOfTrailingZeros_0f7a4_41 : decode cJ6_numberOfTrailingZeros_0f7a4 41 = .ok (.iinc 1 8, 3) := by decide +kernel
theorem dJ6_numberOfTrailingZeros_0f7a4_44 : decode cJ6_numberOfTrailingZeros_0f7a4 44 = .ok (.iload_n 0, 1) := by decide +kernel
theorem dJ6_numberOfTrailingZeros_0f7a4_45 : decode cJ6_numberOfTrailingZeros_0f7a4 45 = .ok (.bipush 8, 2) := by decide +kernel
theorem dJ6_numberOfTrailingZeros_0f7a4_47 : decode cJ6_numberOfTrailingZeros_0f7a4 47 = .ok (.iushr, 1) := by decide +kernel
theorem dJ6_numberOfTrailingZeros_0f7a4_48 : decode cJ6_numberOfTrailingZeros_0f7a4 48 = .ok (.istore_n 0, 1) := by decide +kernel
theorem dJ6_numberOfTrailingZeros_0f7a4_49 : decode cJ6_numberOfTrailingZeros_0f7a4 49 = .ok (.iload_n 0, 1) := by decide +kernel
theorem dJ6_numberOfTrailingZeros_0f7a4_50 : decode cJ6_numberOfTrailingZeros_0f7a4 50 = .ok (.bipush 16, 2) := by decide +kernel
theorem dJ6_numberOfTrailingZeros_0f7a4_52 : decode cJ6_numberOfTrailingZeros_0f7a4 52 = .ok (.if_icmp .le 10, 3) := by decide +kernel
theorem dJ6_numberOfTrailingZeros_0f7a4_55 : decode cJ6_numberOfTrailingZeros_0f7a4 55 = .ok (.iinc 1 4, 3) := by decide +kernel
theorem dJ6_numberOfTrailingZeros_0f7a4_58 : decode cJ6_numberOfTrailingZeros_0f7a4 58 = .ok (.iload_n 0, 1) := by decide +kernel
theorem dJ6_numberOfTrailingZeros_0f7a4_59 : decode cJ6_numberOfTrailingZeros_0f7a4 59 = .ok (.iconst 4, 1) := by decide +kernel
theorem dJ6_numberOfTrailingZeros_0f7a4_60 : decode cJ6_numberOfTrailingZeros_0f7a4 60 = .ok (.iushr, 1) := by decide +kernel
theorem dJ6_numberOfTrailingZeros_0f7a4_61 : decode cJ6_numberOfTrailingZeros_0f7a4 61 = .ok (.istore_n 0, 1) := by decide +kernel
theorem dJ6_numberOfTrailingZeros_0f7a4_62 : decode cJ6_numberOfTrailingZeros_0f7a4 62 = .ok (.iload_n 0, 1) := by decide +kernel
theorem dJ6_numberOfTrailingZeros_0f7a4_63 : decode cJ6_numberOfTrailingZeros_0f7a4 63 = .ok (.iconst 4, 1) := by decide +kernel
theorem dJ6_numberOfTrailingZeros_0f7a4_64 : decode cJ6_numberOfTrailingZeros_0f7a4 64 = .ok (.if_icmp .le 10, 3) := by decide +kernel
theorem dJ6_numberOfTrailingZeros_0f7a4_67 : decode cJ6_numberOfTrailingZeros_0f7a4 67 = .ok (.iinc 1 2, 3) := by decide +kernel
theorem dJ6_numberOfTrailingZeros_0f7a4_70 : decode cJ6_numberOfTrailingZeros_0f7a4 70 = .ok (.iload_n 0, 1) := by decide +kernel
theorem dJ6_numberOfTrailingZeros_0f7a4_71 : decode cJ6_numberOfTrailingZeros_0f7a4 71 = .ok (.iconst 2, 1) := by decide +kernel
theorem dJ6_numberOfTrailingZeros_0f7a4_72 : decode cJ6_numberOfTrailingZeros_0f7a4 72 = .ok (.iushr, 1) := by decide +kernel
theorem dJ6_numberOfTrailingZeros_0f7a4_73 : decode cJ6_numberOfTrailingZeros_0f7a4 73 = .ok (.istore_n 0, 1) := by decide +kernel
theorem dJ6_numberOfTrailingZeros_0f7a4_74 : decode cJ6_numberOfTrailingZeros_0f7a4 74 = .ok (.iload_n 1, 1) := by decide +kernel
theorem dJ6_numberOfTrailingZeros_0f7a4_75 : decode cJ6_numberOfTrailingZeros_0f7a4 75 = .ok (.iload_n 0, 1) := by decide +kernel
theorem dJ6_numberOfTrailingZeros_0f7a4_76 : decode cJ6_numberOfTrailingZeros_0f7a4 76 = .ok (.iconst 1, 1) := by decide +kernel
theorem dJ6_numberOfTrailingZeros_0f7a4_77 : decode cJ6_numberOfTrailingZeros_0f7a4 77 = .ok (.iushr, 1) := by decide +kernel
theorem dJ6_numberOfTrailingZeros_0f7a4_78 : decode cJ6_numberOfTrailingZeros_0f7a4 78 = .ok (.iadd, 1) := by decide +kernel
theorem dJ6_numberOfTrailingZeros_0f7a4_79 : decode cJ6_numberOfTrailingZeros_0f7a4 79 = .ok (.ireturn, 1) := by decide +kernel
theorem dJ6_bitCount_0f7a4_0 : decode cJ6_bitCount_0f7a4 0 = .ok (.iload_n 0, 1) := by decide +kernel
theorem dJ6_bitCount_0f7a4_1 : decode cJ6_bitCount_0f7a4 1 = .ok (.iload_n 0, 1) := by decide +kernel
theorem dJ6_bitCount_0f7a4_2 : decode cJ6_bitCount_0f7a4 2 = .ok (.iconst 1, 1) := by decide +kernel
theorem dJ6_bitCount_0f7a4_3 : decode cJ6_bitCount_0f7a4 3 = .ok (.iushr, 1) := by decide +kernel
theorem dJ6_bitCount_0f7a4_4 : decode cJ6_bitCount_0f7a4 4 = .ok (.ldc_w 265, 3) := by decide +kernel
theorem dJ6_bitCount_0f7a4_7 : decode cJ6_bitCount_0f7a4 7 = .ok (.iand, 1) := by decide +kernel
theorem dJ6_bitCount_0f7a4_8 : decode cJ6_bitCount_0f7a4 8 = .ok (.isub, 1) := by decide +kernel
theorem dJ6_bitCount_0f7a4_9 : decode cJ6_bitCount_0f7a4 9 = .ok (.istore_n 0, 1) := by decide +kernel
theorem dJ6_bitCount_0f7a4_10 : decode cJ6_bitCount_0f7a4 10 = .ok (.iload_n 0, 1) := by decide +kernel
theorem dJ6_bitCount_0f7a4_11 : decode cJ6_bitCount_0f7a4 11 = .ok (.ldc_w 266, 3) := by decide +kernel
theorem dJ6_bitCount_0f7a4_14 : decode cJ6_bitCount_0f7a4 14 = .ok (.iand, 1) := by decide +kernel
theorem dJ6_bitCount_0f7a4_15 : decode cJ6_bitCount_0f7a4 15 = .ok (.iload_n 0, 1) := by decide +kernel
theorem dJ6_bitCount_0f7a4_16 : decode cJ6_bitCount_0f7a4 16 = .ok (.iconst 2, 1) := by decide +kernel
theorem dJ6_bitCount_0f7a4_17 : decode cJ6_bitCount_0f7a4 17 = .ok (.iushr, 1) := by decide +kernel
theorem dJ6_bitCount_0f7a4_18 : decode cJ6_bitCount_0f7a4 18 = .ok (.ldc_w 266, 3) := by decide +kernel
theorem dJ6_bitCount_0f7a4_21 : decode cJ6_bitCount_0f7a4 21 = .ok (.iand, 1) := by decide +kernel
theorem dJ6_bitCount_0f7a4_22 : decode cJ6_bitCount_0f7a4 22 = .ok (.iadd, 1) := by decide +kernel
theorem dJ6_bitCount_0f7a4_23 : decode cJ6_bitCount_0f7a4 23 = .ok (.istore_n 0, 1) := by decide +kernel
theorem dJ6_bitCount_0f7a4_24 : decode cJ6_bitCount_0f7a4 24 = .ok (.iload_n 0, 1) := by decide +kernel
theorem dJ6_bitCount_0f7a4_25 : decode cJ6_bitCount_0f7a4 25 = .ok (.iload_n 0, 1) := by decide +kernel
theorem dJ6_bitCount_0f7a4_26 : decode cJ6_bitCount_0f7a4 26 = .ok (.iconst 4, 1) := by decide +kernel
theorem dJ6_bitCount_0f7a4_27 : decode cJ6_bitCount_0f7a4 27 = .ok (.iushr, 1) := by decide +kernel
theorem dJ6_bitCount_0f7a4_28 : decode cJ6_bitCount_0f7a4 28 = .ok (.iadd, 1) := by decide +kernel
theorem dJ6_bitCount_0f7a4_29 : decode cJ6_bitCount_0f7a4 29 = .ok (.ldc_w 267, 3) := by decide +kernel
theorem dJ6_bitCount_0f7a4_32 : decode cJ6_bitCount_0f7a4 32 = .ok (.iand, 1) := by decide +kernel
theorem dJ6_bitCount_0f7a4_33 : decode cJ6_bitCount_0f7a4 33 = .ok (.istore_n 0, 1) := by decide +kernel
theorem dJ6_bitCount_0f7a4_34 : decode cJ6_bitCount_0f7a4 34 = .ok (.iload_n 0, 1) := by decide +kernel
theorem dJ6_bitCount_0f7a4_35 : decode cJ6_bitCount_0f7a4 35 = .ok (.iload_n 0, 1) := by decide +kernel
theorem dJ6_bitCount_0f7a4_36 : decode cJ6_bitCount_0f7a4 36 = .ok (.bipush 8, 2) := by decide +kernel
theorem dJ6_bitCount_0f7a4_38 : decode cJ6_bitCount_0f7a4 38 = .ok (.iushr, 1) := by decide +kernel
theorem dJ6_bitCount_0f7a4_39 : decode cJ6_bitCount_0f7a4 39 = .ok (.iadd, 1) := by decide +kernel
theorem dJ6_bitCount_0f7a4_40 : decode cJ6_bitCount_0f7a4 40 = .ok (.istore_n 0, 1) := by decide +kernel
theorem dJ6_bitCount_0f7a4_41 : decode cJ6_bitCount_0f7a4 41 = .ok (.iload_n 0, 1) := by decide +kernel
theorem dJ6_bitCount_0f7a4_42 : decode cJ6_bitCount_0f7a4 42 = .ok (.iload_n 0, 1) := by decide +kernel
theorem dJ6_bitCount_0f7a4_43 : decode cJ6_bitCount_0f7a4 43 = .ok (.bipush 16, 2) := by decide +kernel
theorem dJ6_bitCount_0f7a4_45 : decode cJ6_bitCount_0f7a4 45 = .ok (.iushr, 1) := by decide +kernel
theorem dJ6_bitCount_0f7a4_46 : decode cJ6_bitCount_0f7a4 46 = .ok (.iadd, 1) := by decide +kernel
theorem dJ6_bitCount_0f7a4_47 : decode cJ6_bitCount_0f7a4 47 = .ok (.istore_n 0, 1) := by decide +kernel
theorem dJ6_bitCount_0f7a4_48 : decode cJ6_bitCount_0f7a4 48 = .ok (.iload_n 0, 1) := by decide +kernel
theorem dJ6_bitCount_0f7a4_49 : decode cJ6_bitCount_0f7a4 49 = .ok (.bipush 63, 2) := by decide +kernel
theorem dJ6_bitCount_0f7a4_51 : decode cJ6_bitCount_0f7a4 51 = .ok (.iand, 1) := by decide +kernel
theorem dJ6_bitCount_0f7a4_52 : decode cJ6_bitCount_0f7a4 52 = .ok (.ireturn, 1) := by decide +kernel
theorem dJ13_bitCount_95d88_0 : decode cJ13_bitCount_95d88 0 = .ok (.lload_n 0, 1) := by decide +kernel
theorem dJ13_bitCount_95d88_1 : decode cJ13_bitCount_95d88 1 = .ok (.lload_n 0, 1) := by decide +kernel
theorem dJ13_bitCount_95d88_2 : decode cJ13_bitCount_95d88 2 = .ok (.iconst 1, 1) := by decide +kernel
theorem dJ13_bitCount_95d88_3 : decode cJ13_bitCount_95d88 3 = .ok (.lushr, 1) := by decide +kernel
theorem dJ13_bitCount_95d88_4 : decode cJ13_bitCount_95d88 4 = .ok (.ldc2_w 314, 3) := by decide +kernel
theorem dJ13_bitCount_95d88_7 : decode cJ13_bitCount_95d88 7 = .ok (.land, 1) := by decide +kernel
theorem dJ13_bitCount_95d88_8 : decode cJ13_bitCount_95d88 8 = .ok (.lsub, 1) := by decide +kernel
theorem dJ13_bitCount_95d88_9 : decode cJ13_bitCount_95d88 9 = .ok (.lstore_n 0, 1) := by decide +kernel
theorem dJ13_bitCount_95d88_10 : decode cJ13_bitCount_95d88 10 = .ok (.lload_n 0, 1) := by decide +kernel
theorem dJ13_bitCount_95d88_11 : decode cJ13_bitCount_95d88 11 = .ok (.ldc2_w 316, 3) := by decide +kernel
theorem dJ13_bitCount_95d88_14 : decode cJ13_bitCount_95d88 14 = .ok (.land, 1) := by decide +kernel
theorem dJ13_bitCount_95d88_15 : decode cJ13_bitCount_95d88 15 = .ok (.lload_n 0, 1) := by decide +kernel
theorem dJ13_bitCount_95d88_16 : decode cJ13_bitCount_95d88 16 = .ok (.iconst 2, 1) := by decide +kernel
theorem dJ13_bitCount_95d88_17 : decode cJ13_bitCount_95d88 17 = .ok (.lushr, 1) := by decide +kernel
theorem dJ13_bitCount_95d88_18 : decode cJ13_bitCount_95d88 18 = .ok (.ldc2_w 316, 3) := by decide +kernel
theorem dJ13_bitCount_95d88_21 : decode cJ13_bitCount_95d88 21 = .ok (.land, 1) := by decide +kernel
theorem dJ13_bitCount_95d88_22 : decode cJ13_bitCount_95d88 22 = .ok (.ladd, 1) := by decide +kernel
theorem dJ13_bitCount_95d88_23 : decode cJ13_bitCount_95d88 23 = .ok (.lstore_n 0, 1) := by decide +kernel
theorem dJ13_bitCount_95d88_24 : decode cJ13_bitCount_95d88 24 = .ok (.lload_n 0, 1) := by decide +kernel
theorem dJ13_bitCount_95d88_25 : decode cJ13_bitCount_95d88 25 = .ok (.lload_n 0, 1) := by decide +kernel
theorem dJ13_bitCount_95d88_26 : decode cJ13_bitCount_95d88 26 = .ok (.iconst 4, 1) := by decide +kernel
theorem dJ13_bitCount_95d88_27 : decode cJ13_bitCount_95d88 27 = .ok (.lushr, 1) := by decide +kernel
theorem dJ13_bitCount_95d88_28 : decode cJ13_bitCount_95d88 28 = .ok (.ladd, 1) := by decide +kernel
theorem dJ13_bitCount_95d88_29 : decode cJ13_bitCount_95d88 29 = .ok (.ldc2_w 318, 3) := by decide +kernel
theorem dJ13_bitCount_95d88_32 : decode cJ13_bitCount_95d88 32 = .ok (.land, 1) := by decide +kernel
theorem dJ13_bitCount_95d88_33 : decode cJ13_bitCount_95d88 33 = .ok (.lstore_n 0, 1) := by decide +kernel
theorem dJ13_bitCount_95d88_34 : decode cJ13_bitCount_95d88 34 = .ok (.lload_n 0, 1) := by decide +kernel
theorem dJ13_bitCount_95d88_35 : decode cJ13_bitCount_95d88 35 = .ok (.lload_n 0, 1) := by decide +kernel
theorem dJ13_bitCount_95d88_36 : decode cJ13_bitCount_95d88 36 = .ok (.bipush 8, 2) := by decide +kernel
theorem dJ13_bitCount_95d88_38 : decode cJ13_bitCount_95d88 38 = .ok (.lushr, 1) := by decide +kernel
theorem dJ13_bitCount_95d88_39 : decode cJ13_bitCount_95d88 39 = .ok (.ladd, 1) := by decide +kernel
theorem dJ13_bitCount_95d88_40 : decode cJ13_bitCount_95d88 40 = .ok (.lstore_n 0, 1) := by decide +kernel
theorem dJ13_bitCount_95d88_41 : decode cJ13_bitCount_95d88 41 = .ok (.lload_n 0, 1) := by decide +kernel
theorem dJ13_bitCount_95d88_42 : decode cJ13_bitCount_95d88 42 = .ok (.lload_n 0, 1) := by decide +kernel
theorem dJ13_bitCount_95d88_43 : decode cJ13_bitCount_95d88 43 = .ok (.bipush 16, 2) := by decide +kernel
theorem dJ13_bitCount_95d88_45 : decode cJ13_bitCount_95d88 45 = .ok (.lushr, 1) := by decide +kernel
theorem dJ13_bitCount_95d88_46 : decode cJ13_bitCount_95d88 46 = .ok (.ladd, 1) := by decide +kernel
theorem dJ13_bitCount_95d88_47 : decode cJ13_bitCount_95d88 47 = .ok (.lstore_n 0, 1) := by decide +kernel
theorem dJ13_bitCount_95d88_48 : decode cJ13_bitCount_95d88 48 = .ok (.lload_n 0, 1) := by decide +kernel
theorem dJ13_bitCount_95d88_49 : decode cJ13_bitCount_95d88 49 = .ok (.lload_n 0, 1) := by decide +kernel
theorem dJ13_bitCount_95d88_50 : decode cJ13_bitCount_95d88 50 = .ok (.bipush 32, 2) := by decide +kernel
theorem dJ13_bitCount_95d88_52 : decode cJ13_bitCount_95d88 52 = .ok (.lushr, 1) := by decide +kernel
theorem dJ13_bitCount_95d88_53 : decode cJ13_bitCount_95d88 53 = .ok (.ladd, 1) := by decide +kernel
theorem dJ13_bitCount_95d88_54 : decode cJ13_bitCount_95d88 54 = .ok (.lstore_n 0, 1) := by decide +kernel
theorem dJ13_bitCount_95d88_55 : decode cJ13_bitCount_95d88 55 = .ok (.lload_n 0, 1) := by decide +kernel
theorem dJ13_bitCount_95d88_56 : decode cJ13_bitCount_95d88 56 = .ok (.l2i, 1) := by decide +kernel
theorem dJ13_bitCount_95d88_57 : decode cJ13_bitCount_95d88 57 = .ok (.bipush 127, 2) := by decide +kernel
theorem dJ13_bitCount_95d88_59 : decode cJ13_bitCount_95d88 59 = .ok (.iand, 1) := by decide +kernel
theorem dJ13_bitCount_95d88_60 : decode cJ13_bitCount_95d88 60 = .ok (.ireturn, 1) := by decide +kernel
