theorem dX7_init_0 : decode cX7_init 0 = .ok (.aload_n 0, 1) := by decide +kernel
theorem dX7_init_1 : decode cX7_init 1 = .ok (.invokespecial 1, 3) := by decide +kernel
theorem dX7_init_4 : decode cX7_init 4 = .ok (.aload_n 0, 1) := by decide +kernel
theorem dX7_init_5 : decode cX7_init 5 = .ok (.new 7, 3) := by decide +kernel
theorem dX7_init_8 : decode cX7_init 8 = .ok (.dup, 1) := by decide +kernel
theorem dX7_init_9 : decode cX7_init 9 = .ok (.invokespecial 9, 3) := by decide +kernel
theorem dX7_init_12 : decode cX7_init 12 = .ok (.putfield 10, 3) := by decide +kernel
theorem dX7_init_15 : decode cX7_init 15 = .ok (.aload_n 0, 1) := by decide +kernel
theorem dX7_init_16 : decode cX7_init 16 = .ok (.new 16, 3) := by decide +kernel
theorem dX7_init_19 : decode cX7_init 19 = .ok (.dup, 1) := by decide +kernel
theorem dX7_init_20 : decode cX7_init 20 = .ok (.invokespecial 18, 3) := by decide +kernel
theorem dX7_init_23 : decode cX7_init 23 = .ok (.putfield 19, 3) := by decide +kernel
theorem dX7_init_26 : decode cX7_init 26 = .ok (.aload_n 0, 1) := by decide +kernel
theorem dX7_init_27 : decode cX7_init 27 = .ok (.new 16, 3) := by decide +kernel
theorem dX7_init_30 : decode cX7_init 30 = .ok (.dup, 1) := by decide +kernel
theorem dX7_init_31 : decode cX7_init 31 = .ok (.invokespecial 18, 3) := by decide +kernel
theorem dX7_init_34 : decode cX7_init 34 = .ok (.putfield 23, 3) := by decide +kernel
theorem dX7_init_37 : decode cX7_init 37 = .ok (.aload_n 0, 1) := by decide +kernel
theorem dX7_init_38 : decode cX7_init 38 = .ok (.new 26, 3) := by decide +kernel
theorem dX7_init_41 : decode cX7_init 41 = .ok (.dup, 1) := by decide +kernel
theorem dX7_init_42 : decode cX7_init 42 = .ok (.invokespecial 28, 3) := by decide +kernel
theorem dX7_init_45 : decode cX7_init 45 = .ok (.putfield 29, 3) := by decide +kernel
theorem dX7_init_48 : decode cX7_init 48 = .ok (.aload_n 0, 1) := by decide +kernel
theorem dX7_init_49 : decode cX7_init 49 = .ok (.new 33, 3) := by decide +kernel
theorem dX7_init_52 : decode cX7_init 52 = .ok (.dup, 1) := by decide +kernel
theorem dX7_init_53 : decode cX7_init 53 = .ok (.invokespecial 35, 3) := by decide +kernel
theorem dX7_init_56 : decode cX7_init 56 = .ok (.putfield 36, 3) := by decide +kernel
theorem dX7_init_59 : decode cX7_init 59 = .ok (.aload_n 0, 1) := by decide +kernel
theorem dX7_init_60 : decode cX7_init 60 = .ok (.new 40, 3) := by decide +kernel
theorem dX7_init_63 : decode cX7_init 63 = .ok (.dup, 1) := by decide +kernel
theorem dX7_init_64 : decode cX7_init 64 = .ok (.invokespecial 42, 3) := by decide +kernel
theorem dX7_init_67 : decode cX7_init 67 = .ok (.putfield 43, 3) := by decide +kernel
theorem dX7_init_70 : decode cX7_init 70 = .ok (.aload_n 0, 1) := by decide +kernel
theorem dX7_init_71 : decode cX7_init 71 = .ok (.new 47, 3) := by decide +kernel
theorem dX7_init_74 : decode cX7_init 74 = .ok (.dup, 1) := by decide +kernel
theorem dX7_init_75 : decode cX7_init 75 = .ok (.invokespecial 49, 3) := by decide +kernel
theorem dX7_init_78 : decode cX7_init 78 = .ok (.putfield 50, 3) := by decide +kernel
theorem dX7_init_81 : decode cX7_init 81 = .ok (.aload_n 0, 1) := by decide +kernel
theorem dX7_init_82 : decode cX7_init 82 = .ok (.bipush 36, 2) := by decide +kernel
theorem dX7_init_84 : decode cX7_init 84 = .ok (.newarray .int, 2) := by decide +kernel
theorem dX7_init_86 : decode cX7_init 86 = .ok (.putfield 54, 3) := by decide +kernel
theorem dX7_init_89 : decode cX7_init 89 = .ok (.aload_n 0, 1) := by decide +kernel
theorem dX7_init_90 : decode cX7_init 90 = .ok (.iconst 2, 1) := by decide +kernel
theorem dX7_init_91 : decode cX7_init 91 = .ok (.newarray .boolean, 2) := by decide +kernel
theorem dX7_init_93 : decode cX7_init 93 = .ok (.putfield 58, 3) := by decide +kernel
theorem dX7_init_96 : decode cX7_init 96 = .ok (.aload_n 0, 1) := by decide +kernel
theorem dX7_init_97 : decode cX7_init 97 = .ok (.new 62, 3) := by decide +kernel
theorem dX7_init_100 : decode cX7_init 100 = .ok (.dup, 1) := by decide +kernel
theorem dX7_init_101 : decode cX7_init 101 = .ok (.invokespecial 64, 3) := by decide +kernel
theorem dX7_init_104 : decode cX7_init 104 = .ok (.putfield 65, 3) := by decide +kernel
theorem dX7_init_107 : decode cX7_init 107 = .ok (.aload_n 0, 1) := by decide +kernel
theorem dX7_init_108 : decode cX7_init 108 = .ok (.new 62, 3) := by decide +kernel
theorem dX7_init_111 : decode cX7_init 111 = .ok (.dup, 1) := by decide +kernel
theorem dX7_init_112 : decode cX7_init 112 = .ok (.invokespecial 64, 3) := by decide +kernel
theorem dX7_init_115 : decode cX7_init 115 = .ok (.putfield 69, 3) := by decide +kernel
theorem dX7_init_118 : decode cX7_init 118 = .ok (.aload_n 0, 1) := by decide +kernel
theorem dX7_init_119 : decode cX7_init 119 = .ok (.lconst 0, 1) := by decide +kernel
theorem dX7_init_120 : decode cX7_init 120 = .ok (.putfield 72, 3) := by decide +kernel
theorem dX7_init_123 : decode cX7_init 123 = .ok (.return_, 1) := by decide +kernel
theorem dX7_write_0 : decode cX7_write 0 = .ok (.iload_n 1, 1) := by decide +kernel
theorem dX7_write_1 : decode cX7_write 1 = .ok (.ifCond .lt 10, 3) := by decide +kernel
theorem dX7_write_4 : decode cX7_write 4 = .ok (.iload_n 1, 1) := by decide +kernel
theorem dX7_write_5 : decode cX7_write 5 = .ok (.sipush 255, 3) := by decide +kernel
theorem dX7_write_8 : decode cX7_write 8 = .ok (.if_icmp .le 6, 3) := by decide +kernel
theorem dX7_write_11 : decode cX7_write 11 = .ok (.bipush (-2), 2) := by decide +kernel
theorem dX7_write_13 : decode cX7_write 13 = .ok (.ireturn, 1) := by decide +kernel
theorem dX7_write_14 : decode cX7_write 14 = .ok (.aload_n 0, 1) := by decide +kernel
theorem dX7_write_15 : decode cX7_write 15 = .ok (.getfield 10, 3) := by decide +kernel
theorem dX7_write_18 : decode cX7_write 18 = .ok (.iload_n 1, 1) := by decide +kernel
theorem dX7_write_19 : decode cX7_write 19 = .ok (.invokevirtual 76, 3) := by decide +kernel
theorem dX7_write_22 : decode cX7_write 22 = .ok (.ireturn, 1) := by decide +kernel
theorem dX7_wipe_0 : decode cX7_wipe 0 = .ok (.aload_n 0, 1) := by decide +kernel
theorem dX7_wipe_1 : decode cX7_wipe 1 = .ok (.getfield 10, 3) := by decide +kernel
theorem dX7_wipe_4 : decode cX7_wipe 4 = .ok (.invokevirtual 80, 3) := by decide +kernel
theorem dX7_wipe_7 : decode cX7_wipe 7 = .ok (.ireturn, 1) := by decide +kernel
theorem dX7_fault_0 : decode cX7_fault 0 = .ok (.aload_n 0, 1) := by decide +kernel
theorem dX7_fault_1 : decode cX7_fault 1 = .ok (.getfield 10, 3) := by decide +kernel
theorem dX7_fault_4 : decode cX7_fault 4 = .ok (.aload_n 0, 1) := by decide +kernel
theorem dX7_fault_5 : decode cX7_fault 5 = .ok (.getfield 69, 3) := by decide +kernel
theorem dX7_fault_8 : decode cX7_fault 8 = .ok (.invokevirtual 84, 3) := by decide +kernel
theorem dX7_fault_11 : decode cX7_fault 11 = .ok (.ireturn, 1) := by decide +kernel
theorem dX7_party_0 : decode cX7_party 0 = .ok (.aload_n 0, 1) := by decide +kernel
theorem dX7_party_1 : decode cX7_party 1 = .ok (.getfield 10, 3) := by decide +kernel
theorem dX7_party_4 : decode cX7_party 4 = .ok (.aload_n 0, 1) := by decide +kernel
theorem dX7_party_5 : decode cX7_party 5 = .ok (.getfield 69, 3) := by decide +kernel
theorem dX7_party_8 : decode cX7_party 8 = .ok (.invokevirtual 84, 3) := by decide +kernel
theorem dX7_party_11 : decode cX7_party 11 = .ok (.bipush (-9), 2) := by decide +kernel
theorem dX7_party_13 : decode cX7_party 13 = .ok (.if_icmp .eq 6, 3) := by decide +kernel
theorem dX7_party_16 : decode cX7_party 16 = .ok (.bipush (-3), 2) := by decide +kernel
theorem dX7_party_18 : decode cX7_party 18 = .ok (.ireturn, 1) := by decide +kernel
theorem dX7_party_19 : decode cX7_party 19 = .ok (.aload_n 0, 1) := by decide +kernel
theorem dX7_party_20 : decode cX7_party 20 = .ok (.getfield 65, 3) := by decide +kernel
theorem dX7_party_23 : decode cX7_party 23 = .ok (.astore_n 1, 1) := by decide +kernel
theorem dX7_party_24 : decode cX7_party 24 = .ok (.aload_n 0, 1) := by decide +kernel
theorem dX7_party_25 : decode cX7_party 25 = .ok (.aload_n 0, 1) := by decide +kernel
theorem dX7_party_26 : decode cX7_party 26 = .ok (.getfield 69, 3) := by decide +kernel
theorem dX7_party_29 : decode cX7_party 29 = .ok (.putfield 65, 3) := by decide +kernel
theorem dX7_party_32 : decode cX7_party 32 = .ok (.aload_n 0, 1) := by decide +kernel
theorem dX7_party_33 : decode cX7_party 33 = .ok (.aload_n 1, 1) := by decide +kernel
theorem dX7_party_34 : decode cX7_party 34 = .ok (.putfield 69, 3) := by decide +kernel
theorem dX7_party_37 : decode cX7_party 37 = .ok (.aload_n 0, 1) := by decide +kernel
theorem dX7_party_38 : decode cX7_party 38 = .ok (.getfield 19, 3) := by decide +kernel
theorem dX7_party_41 : decode cX7_party 41 = .ok (.aload_n 0, 1) := by decide +kernel
theorem dX7_party_42 : decode cX7_party 42 = .ok (.getfield 65, 3) := by decide +kernel
theorem dX7_party_45 : decode cX7_party 45 = .ok (.invokevirtual 88, 3) := by decide +kernel
theorem dX7_party_48 : decode cX7_party 48 = .ok (.aload_n 0, 1) := by decide +kernel
theorem dX7_party_49 : decode cX7_party 49 = .ok (.getfield 29, 3) := by decide +kernel
theorem dX7_party_52 : decode cX7_party 52 = .ok (.invokevirtual 92, 3) := by decide +kernel
theorem dX7_party_55 : decode cX7_party 55 = .ok (.iconst 0, 1) := by decide +kernel
theorem dX7_party_56 : decode cX7_party 56 = .ok (.istore_n 2, 1) := by decide +kernel
theorem dX7_party_57 : decode cX7_party 57 = .ok (.iload_n 2, 1) := by decide +kernel
theorem dX7_party_58 : decode cX7_party 58 = .ok (.iconst 2, 1) := by decide +kernel
theorem dX7_party_59 : decode cX7_party 59 = .ok (.if_icmp .ge 16, 3) := by decide +kernel
theorem dX7_party_62 : decode cX7_party 62 = .ok (.aload_n 0, 1) := by decide +kernel
theorem dX7_party_63 : decode cX7_party 63 = .ok (.getfield 58, 3) := by decide +kernel
theorem dX7_party_66 : decode cX7_party 66 = .ok (.iload_n 2, 1) := by decide +kernel
theorem dX7_party_67 : decode cX7_party 67 = .ok (.iconst 0, 1) := by decide +kernel
theorem dX7_party_68 : decode cX7_party 68 = .ok (.bastore, 1) := by decide +kernel
theorem dX7_party_69 : decode cX7_party 69 = .ok (.iinc 2 1, 3) := by decide +kernel
theorem dX7_party_72 : decode cX7_party 72 = .ok (.goto (-15), 3) := by decide +kernel
theorem dX7_party_75 : decode cX7_party 75 = .ok (.aload_n 0, 1) := by decide +kernel
theorem dX7_party_76 : decode cX7_party 76 = .ok (.getfield 36, 3) := by decide +kernel
theorem dX7_party_79 : decode cX7_party 79 = .ok (.iconst 0, 1) := by decide +kernel
theorem dX7_party_80 : decode cX7_party 80 = .ok (.putfield 94, 3) := by decide +kernel
theorem dX7_party_83 : decode cX7_party 83 = .ok (.bipush 10, 2) := by decide +kernel
theorem dX7_party_85 : decode cX7_party 85 = .ok (.aload_n 0, 1) := by decide +kernel
theorem dX7_party_86 : decode cX7_party 86 = .ok (.getfield 65, 3) := by decide +kernel
theorem dX7_party_89 : decode cX7_party 89 = .ok (.getfield 98, 3) := by decide +kernel
theorem dX7_party_92 : decode cX7_party 92 = .ok (.imul, 1) := by decide +kernel
theorem dX7_party_93 : decode cX7_party 93 = .ok (.aload_n 0, 1) := by decide +kernel
theorem dX7_party_94 : decode cX7_party 94 = .ok (.getfield 65, 3) := by decide +kernel
theorem dX7_party_97 : decode cX7_party 97 = .ok (.getfield 102, 3) := by decide +kernel
theorem dX7_party_100 : decode cX7_party 100 = .ok (.iadd, 1) := by decide +kernel
theorem dX7_party_101 : decode cX7_party 101 = .ok (.ireturn, 1) := by decide +kernel
theorem dX7_moment_0 : decode cX7_moment 0 = .ok (.iload_n 1, 1) := by decide +kernel
theorem dX7_moment_1 : decode cX7_moment 1 = .ok (.ifCond .lt 25, 3) := by decide +kernel
theorem dX7_moment_4 : decode cX7_moment 4 = .ok (.iload_n 1, 1) := by decide +kernel
theorem dX7_moment_5 : decode cX7_moment 5 = .ok (.aload_n 0, 1) := by decide +kernel
theorem dX7_moment_6 : decode cX7_moment 6 = .ok (.getfield 65, 3) := by decide +kernel
theorem dX7_moment_9 : decode cX7_moment 9 = .ok (.getfield 105, 3) := by decide +kernel
theorem dX7_moment_12 : decode cX7_moment 12 = .ok (.if_icmp .ge 14, 3) := by decide +kernel
theorem dX7_moment_15 : decode cX7_moment 15 = .ok (.aload_n 0, 1) := by decide +kernel
theorem dX7_moment_16 : decode cX7_moment 16 = .ok (.getfield 65, 3) := by decide +kernel
theorem dX7_moment_19 : decode cX7_moment 19 = .ok (.iload_n 1, 1) := by decide +kernel
theorem dX7_moment_20 : decode cX7_moment 20 = .ok (.invokevirtual 108, 3) := by decide +kernel
theorem dX7_moment_23 : decode cX7_moment 23 = .ok (.goto 5, 3) := by decide +kernel
theorem dX7_moment_26 : decode cX7_moment 26 = .ok (.bipush (-9), 2) := by decide +kernel
theorem dX7_moment_28 : decode cX7_moment 28 = .ok (.ireturn, 1) := by decide +kernel
theorem dX7_candle_0 : decode cX7_candle 0 = .ok (.aload_n 0, 1) := by decide +kernel
theorem dX7_candle_1 : decode cX7_candle 1 = .ok (.getfield 65, 3) := by decide +kernel
theorem dX7_candle_4 : decode cX7_candle 4 = .ok (.iload_n 1, 1) := by decide +kernel
theorem dX7_candle_5 : decode cX7_candle 5 = .ok (.invokevirtual 111, 3) := by decide +kernel
theorem dX7_candle_8 : decode cX7_candle 8 = .ok (.ifCond .ne 5, 3) := by decide +kernel
theorem dX7_candle_11 : decode cX7_candle 11 = .ok (.iconst (-1), 1) := by decide +kernel
theorem dX7_candle_12 : decode cX7_candle 12 = .ok (.ireturn, 1) := by decide +kernel
theorem dX7_candle_13 : decode cX7_candle 13 = .ok (.iload_n 2, 1) := by decide +kernel
theorem dX7_candle_14 : decode cX7_candle 14 = .ok (.tableswitch 87 0 3 #[30, 57, 67, 77], 30) := by decide +kernel
theorem dX7_candle_44 : decode cX7_candle 44 = .ok (.aload_n 0, 1) := by decide +kernel
theorem dX7_candle_45 : decode cX7_candle 45 = .ok (.getfield 19, 3) := by decide +kernel
theorem dX7_candle_48 : decode cX7_candle 48 = .ok (.getfield 115, 3) := by decide +kernel
theorem dX7_candle_51 : decode cX7_candle 51 = .ok (.iload_n 1, 1) := by decide +kernel
theorem dX7_candle_52 : decode cX7_candle 52 = .ok (.iaload, 1) := by decide +kernel
theorem dX7_candle_53 : decode cX7_candle 53 = .ok (.ifCond .le 15, 3) := by decide +kernel
theorem dX7_candle_56 : decode cX7_candle 56 = .ok (.aload_n 0, 1) := by decide +kernel
theorem dX7_candle_57 : decode cX7_candle 57 = .ok (.getfield 19, 3) := by decide +kernel
theorem dX7_candle_60 : decode cX7_candle 60 = .ok (.getfield 118, 3) := by decide +kernel
theorem dX7_candle_63 : decode cX7_candle 63 = .ok (.iload_n 1, 1) := by decide +kernel
theorem dX7_candle_64 : decode cX7_candle 64 = .ok (.iaload, 1) := by decide +kernel
theorem dX7_candle_65 : decode cX7_candle 65 = .ok (.goto 5, 3) := by decide +kernel
theorem dX7_candle_68 : decode cX7_candle 68 = .ok (.bipush (-9), 2) := by decide +kernel
theorem dX7_candle_70 : decode cX7_candle 70 = .ok (.ireturn, 1) := by decide +kernel
theorem dX7_candle_71 : decode cX7_candle 71 = .ok (.aload_n 0, 1) := by decide +kernel
theorem dX7_candle_72 : decode cX7_candle 72 = .ok (.getfield 19, 3) := by decide +kernel
theorem dX7_candle_75 : decode cX7_candle 75 = .ok (.getfield 115, 3) := by decide +kernel
theorem dX7_candle_78 : decode cX7_candle 78 = .ok (.iload_n 1, 1) := by decide +kernel
theorem dX7_candle_79 : decode cX7_candle 79 = .ok (.iaload, 1) := by decide +kernel
theorem dX7_candle_80 : decode cX7_candle 80 = .ok (.ireturn, 1) := by decide +kernel
theorem dX7_candle_81 : decode cX7_candle 81 = .ok (.aload_n 0, 1) := by decide +kernel
theorem dX7_candle_82 : decode cX7_candle 82 = .ok (.getfield 65, 3) := by decide +kernel
theorem dX7_candle_85 : decode cX7_candle 85 = .ok (.getfield 121, 3) := by decide +kernel
theorem dX7_candle_88 : decode cX7_candle 88 = .ok (.iload_n 1, 1) := by decide +kernel
theorem dX7_candle_89 : decode cX7_candle 89 = .ok (.iaload, 1) := by decide +kernel
theorem dX7_candle_90 : decode cX7_candle 90 = .ok (.ireturn, 1) := by decide +kernel
theorem dX7_candle_91 : decode cX7_candle 91 = .ok (.aload_n 0, 1) := by decide +kernel
theorem dX7_candle_92 : decode cX7_candle 92 = .ok (.getfield 19, 3) := by decide +kernel
theorem dX7_candle_95 : decode cX7_candle 95 = .ok (.getfield 124, 3) := by decide +kernel
theorem dX7_candle_98 : decode cX7_candle 98 = .ok (.iload_n 1, 1) := by decide +kernel
theorem dX7_candle_99 : decode cX7_candle 99 = .ok (.iaload, 1) := by decide +kernel
theorem dX7_candle_100 : decode cX7_candle 100 = .ok (.ireturn, 1) := by decide +kernel
theorem dX7_candle_101 : decode cX7_candle 101 = .ok (.bipush (-2), 2) := by decide +kernel
theorem dX7_candle_103 : decode cX7_candle 103 = .ok (.ireturn, 1) := by decide +kernel
theorem dX7_guest_0 : decode cX7_guest 0 = .ok (.aload_n 0, 1) := by decide +kernel
theorem dX7_guest_1 : decode cX7_guest 1 = .ok (.getfield 65, 3) := by decide +kernel
theorem dX7_guest_4 : decode cX7_guest 4 = .ok (.iload_n 1, 1) := by decide +kernel
theorem dX7_guest_5 : decode cX7_guest 5 = .ok (.invokevirtual 127, 3) := by decide +kernel
theorem dX7_guest_8 : decode cX7_guest 8 = .ok (.ifCond .ne 5, 3) := by decide +kernel
theorem dX7_guest_11 : decode cX7_guest 11 = .ok (.iconst (-1), 1) := by decide +kernel
theorem dX7_guest_12 : decode cX7_guest 12 = .ok (.ireturn, 1) := by decide +kernel
theorem dX7_guest_13 : decode cX7_guest 13 = .ok (.iload_n 2, 1) := by decide +kernel
theorem dX7_guest_14 : decode cX7_guest 14 = .ok (.tableswitch 109 0 5 #[38, 48, 58, 68, 78, 88], 38) := by decide +kernel
theorem dX7_guest_52 : decode cX7_guest 52 = .ok (.aload_n 0, 1) := by decide +kernel
theorem dX7_guest_53 : decode cX7_guest 53 = .ok (.getfield 65, 3) := by decide +kernel
theorem dX7_guest_56 : decode cX7_guest 56 = .ok (.getfield 130, 3) := by decide +kernel
theorem dX7_guest_59 : decode cX7_guest 59 = .ok (.iload_n 1, 1) := by decide +kernel
theorem dX7_guest_60 : decode cX7_guest 60 = .ok (.iaload, 1) := by decide +kernel
theorem dX7_guest_61 : decode cX7_guest 61 = .ok (.ireturn, 1) := by decide +kernel
theorem dX7_guest_62 : decode cX7_guest 62 = .ok (.aload_n 0, 1) := by decide +kernel
theorem dX7_guest_63 : decode cX7_guest 63 = .ok (.getfield 65, 3) := by decide +kernel
theorem dX7_guest_66 : decode cX7_guest 66 = .ok (.getfield 133, 3) := by decide +kernel
theorem dX7_guest_69 : decode cX7_guest 69 = .ok (.iload_n 1, 1) := by decide +kernel
theorem dX7_guest_70 : decode cX7_guest 70 = .ok (.iaload, 1) := by decide +kernel
theorem dX7_guest_71 : decode cX7_guest 71 = .ok (.ireturn, 1) := by decide +kernel
theorem dX7_guest_72 : decode cX7_guest 72 = .ok (.aload_n 0, 1) := by decide +kernel
theorem dX7_guest_73 : decode cX7_guest 73 = .ok (.getfield 65, 3) := by decide +kernel
theorem dX7_guest_76 : decode cX7_guest 76 = .ok (.getfield 136, 3) := by decide +kernel
theorem dX7_guest_79 : decode cX7_guest 79 = .ok (.iload_n 1, 1) := by decide +kernel
theorem dX7_guest_80 : decode cX7_guest 80 = .ok (.iaload, 1) := by decide +kernel
theorem dX7_guest_81 : decode cX7_guest 81 = .ok (.ireturn, 1) := by decide +kernel
theorem dX7_guest_82 : decode cX7_guest 82 = .ok (.aload_n 0, 1) := by decide +kernel
theorem dX7_guest_83 : decode cX7_guest 83 = .ok (.getfield 65, 3) := by decide +kernel
theorem dX7_guest_86 : decode cX7_guest 86 = .ok (.getfield 139, 3) := by decide +kernel
theorem dX7_guest_89 : decode cX7_guest 89 = .ok (.iload_n 1, 1) := by decide +kernel
theorem dX7_guest_90 : decode cX7_guest 90 = .ok (.iaload, 1) := by decide +kernel
theorem dX7_guest_91 : decode cX7_guest 91 = .ok (.ireturn, 1) := by decide +kernel
theorem dX7_guest_92 : decode cX7_guest 92 = .ok (.aload_n 0, 1) := by decide +kernel
theorem dX7_guest_93 : decode cX7_guest 93 = .ok (.getfield 19, 3) := by decide +kernel
theorem dX7_guest_96 : decode cX7_guest 96 = .ok (.getfield 142, 3) := by decide +kernel
theorem dX7_guest_99 : decode cX7_guest 99 = .ok (.iload_n 1, 1) := by decide +kernel
theorem dX7_guest_100 : decode cX7_guest 100 = .ok (.iaload, 1) := by decide +kernel
theorem dX7_guest_101 : decode cX7_guest 101 = .ok (.ireturn, 1) := by decide +kernel
theorem dX7_guest_102 : decode cX7_guest 102 = .ok (.aload_n 0, 1) := by decide +kernel
theorem dX7_guest_103 : decode cX7_guest 103 = .ok (.getfield 19, 3) := by decide +kernel
theorem dX7_guest_106 : decode cX7_guest 106 = .ok (.aload_n 0, 1) := by decide +kernel
theorem dX7_guest_107 : decode cX7_guest 107 = .ok (.getfield 65, 3) := by decide +kernel
theorem dX7_guest_110 : decode cX7_guest 110 = .ok (.iload_n 1, 1) := by decide +kernel
theorem dX7_guest_111 : decode cX7_guest 111 = .ok (.invokevirtual 145, 3) := by decide +kernel
theorem dX7_guest_114 : decode cX7_guest 114 = .ok (.ifCond .eq 7, 3) := by decide +kernel
theorem dX7_guest_117 : decode cX7_guest 117 = .ok (.iconst 1, 1) := by decide +kernel
theorem dX7_guest_118 : decode cX7_guest 118 = .ok (.goto 4, 3) := by decide +kernel
theorem dX7_guest_121 : decode cX7_guest 121 = .ok (.iconst 0, 1) := by decide +kernel
theorem dX7_guest_122 : decode cX7_guest 122 = .ok (.ireturn, 1) := by decide +kernel
theorem dX7_guest_123 : decode cX7_guest 123 = .ok (.bipush (-2), 2) := by decide +kernel
theorem dX7_guest_125 : decode cX7_guest 125 = .ok (.ireturn, 1) := by decide +kernel
theorem dX7_light_0 : decode cX7_light 0 = .ok (.aload_n 0, 1) := by decide +kernel
theorem dX7_light_1 : decode cX7_light 1 = .ok (.getfield 65, 3) := by decide +kernel
theorem dX7_light_4 : decode cX7_light 4 = .ok (.iload_n 1, 1) := by decide +kernel
theorem dX7_light_5 : decode cX7_light 5 = .ok (.invokevirtual 111, 3) := by decide +kernel
theorem dX7_light_8 : decode cX7_light 8 = .ok (.ifCond .ne 5, 3) := by decide +kernel
theorem dX7_light_11 : decode cX7_light 11 = .ok (.iconst (-1), 1) := by decide +kernel
theorem dX7_light_12 : decode cX7_light 12 = .ok (.ireturn, 1) := by decide +kernel
theorem dX7_light_13 : decode cX7_light 13 = .ok (.aload_n 0, 1) := by decide +kernel
theorem dX7_light_14 : decode cX7_light 14 = .ok (.getfield 19, 3) := by decide +kernel
theorem dX7_light_17 : decode cX7_light 17 = .ok (.getfield 124, 3) := by decide +kernel
theorem dX7_light_20 : decode cX7_light 20 = .ok (.iload_n 1, 1) := by decide +kernel
theorem dX7_light_21 : decode cX7_light 21 = .ok (.iaload, 1) := by decide +kernel
theorem dX7_light_22 : decode cX7_light 22 = .ok (.ifCond .eq 6, 3) := by decide +kernel
theorem dX7_light_25 : decode cX7_light 25 = .ok (.bipush (-3), 2) := by decide +kernel
theorem dX7_light_27 : decode cX7_light 27 = .ok (.ireturn, 1) := by decide +kernel
theorem dX7_light_28 : decode cX7_light 28 = .ok (.aload_n 0, 1) := by decide +kernel
theorem dX7_light_29 : decode cX7_light 29 = .ok (.invokevirtual 149, 3) := by decide +kernel
theorem dX7_light_32 : decode cX7_light 32 = .ok (.aload_n 0, 1) := by decide +kernel
theorem dX7_light_33 : decode cX7_light 33 = .ok (.getfield 19, 3) := by decide +kernel
theorem dX7_light_36 : decode cX7_light 36 = .ok (.getfield 124, 3) := by decide +kernel
theorem dX7_light_39 : decode cX7_light 39 = .ok (.iload_n 1, 1) := by decide +kernel
theorem dX7_light_40 : decode cX7_light 40 = .ok (.iconst 1, 1) := by decide +kernel
theorem dX7_light_41 : decode cX7_light 41 = .ok (.iastore, 1) := by decide +kernel
theorem dX7_light_42 : decode cX7_light 42 = .ok (.aload_n 0, 1) := by decide +kernel
theorem dX7_light_43 : decode cX7_light 43 = .ok (.getfield 19, 3) := by decide +kernel
theorem dX7_light_46 : decode cX7_light 46 = .ok (.aload_n 0, 1) := by decide +kernel
theorem dX7_light_47 : decode cX7_light 47 = .ok (.getfield 65, 3) := by decide +kernel
theorem dX7_light_50 : decode cX7_light 50 = .ok (.iconst 1, 1) := by decide +kernel
theorem dX7_light_51 : decode cX7_light 51 = .ok (.invokevirtual 152, 3) := by decide +kernel
theorem dX7_light_54 : decode cX7_light 54 = .ok (.invokestatic 156, 3) := by decide +kernel
theorem dX7_light_57 : decode cX7_light 57 = .ok (.ireturn, 1) := by decide +kernel
theorem dX7_out_0 : decode cX7_out 0 = .ok (.aload_n 0, 1) := by decide +kernel
theorem dX7_out_1 : decode cX7_out 1 = .ok (.getfield 65, 3) := by decide +kernel
theorem dX7_out_4 : decode cX7_out 4 = .ok (.iload_n 1, 1) := by decide +kernel
theorem dX7_out_5 : decode cX7_out 5 = .ok (.invokevirtual 111, 3) := by decide +kernel
theorem dX7_out_8 : decode cX7_out 8 = .ok (.ifCond .ne 5, 3) := by decide +kernel
theorem dX7_out_11 : decode cX7_out 11 = .ok (.iconst (-1), 1) := by decide +kernel
theorem dX7_out_12 : decode cX7_out 12 = .ok (.ireturn, 1) := by decide +kernel
theorem dX7_out_13 : decode cX7_out 13 = .ok (.aload_n 0, 1) := by decide +kernel
theorem dX7_out_14 : decode cX7_out 14 = .ok (.getfield 19, 3) := by decide +kernel
theorem dX7_out_17 : decode cX7_out 17 = .ok (.getfield 124, 3) := by decide +kernel
theorem dX7_out_20 : decode cX7_out 20 = .ok (.iload_n 1, 1) := by decide +kernel
theorem dX7_out_21 : decode cX7_out 21 = .ok (.iaload, 1) := by decide +kernel
theorem dX7_out_22 : decode cX7_out 22 = .ok (.iconst 1, 1) := by decide +kernel
theorem dX7_out_23 : decode cX7_out 23 = .ok (.if_icmp .eq 6, 3) := by decide +kernel
theorem dX7_out_26 : decode cX7_out 26 = .ok (.bipush (-3), 2) := by decide +kernel
theorem dX7_out_28 : decode cX7_out 28 = .ok (.ireturn, 1) := by decide +kernel
theorem dX7_out_29 : decode cX7_out 29 = .ok (.aload_n 0, 1) := by decide +kernel
theorem dX7_out_30 : decode cX7_out 30 = .ok (.invokevirtual 149, 3) := by decide +kernel
theorem dX7_out_33 : decode cX7_out 33 = .ok (.aload_n 0, 1) := by decide +kernel
theorem dX7_out_34 : decode cX7_out 34 = .ok (.getfield 19, 3) := by decide +kernel
theorem dX7_out_37 : decode cX7_out 37 = .ok (.getfield 124, 3) := by decide +kernel
theorem dX7_out_40 : decode cX7_out 40 = .ok (.iload_n 1, 1) := by decide +kernel
theorem dX7_out_41 : decode cX7_out 41 = .ok (.iconst 2, 1) := by decide +kernel
theorem dX7_out_42 : decode cX7_out 42 = .ok (.iastore, 1) := by decide +kernel
theorem dX7_out_43 : decode cX7_out 43 = .ok (.aload_n 0, 1) := by decide +kernel
theorem dX7_out_44 : decode cX7_out 44 = .ok (.getfield 19, 3) := by decide +kernel
theorem dX7_out_47 : decode cX7_out 47 = .ok (.getfield 115, 3) := by decide +kernel
theorem dX7_out_50 : decode cX7_out 50 = .ok (.iload_n 1, 1) := by decide +kernel
theorem dX7_out_51 : decode cX7_out 51 = .ok (.iaload, 1) := by decide +kernel
theorem dX7_out_52 : decode cX7_out 52 = .ok (.ireturn, 1) := by decide +kernel
theorem dX7_trim_0 : decode cX7_trim 0 = .ok (.aload_n 0, 1) := by decide +kernel
theorem dX7_trim_1 : decode cX7_trim 1 = .ok (.getfield 65, 3) := by decide +kernel
theorem dX7_trim_4 : decode cX7_trim 4 = .ok (.iload_n 1, 1) := by decide +kernel
theorem dX7_trim_5 : decode cX7_trim 5 = .ok (.invokevirtual 111, 3) := by decide +kernel
theorem dX7_trim_8 : decode cX7_trim 8 = .ok (.ifCond .ne 5, 3) := by decide +kernel
theorem dX7_trim_11 : decode cX7_trim 11 = .ok (.iconst (-1), 1) := by decide +kernel
theorem dX7_trim_12 : decode cX7_trim 12 = .ok (.ireturn, 1) := by decide +kernel
theorem dX7_trim_13 : decode cX7_trim 13 = .ok (.iload_n 2, 1) := by decide +kernel
theorem dX7_trim_14 : decode cX7_trim 14 = .ok (.iconst 1, 1) := by decide +kernel
theorem dX7_trim_15 : decode cX7_trim 15 = .ok (.if_icmp .lt 9, 3) := by decide +kernel
theorem dX7_trim_18 : decode cX7_trim 18 = .ok (.iload_n 2, 1) := by decide +kernel
theorem dX7_trim_19 : decode cX7_trim 19 = .ok (.bipush 6, 2) := by decide +kernel
theorem dX7_trim_21 : decode cX7_trim 21 = .ok (.if_icmp .lt 6, 3) := by decide +kernel
theorem dX7_trim_24 : decode cX7_trim 24 = .ok (.bipush (-2), 2) := by decide +kernel
theorem dX7_trim_26 : decode cX7_trim 26 = .ok (.ireturn, 1) := by decide +kernel
theorem dX7_trim_27 : decode cX7_trim 27 = .ok (.aload_n 0, 1) := by decide +kernel
theorem dX7_trim_28 : decode cX7_trim 28 = .ok (.getfield 19, 3) := by decide +kernel
theorem dX7_trim_31 : decode cX7_trim 31 = .ok (.getfield 124, 3) := by decide +kernel
theorem dX7_trim_34 : decode cX7_trim 34 = .ok (.iload_n 1, 1) := by decide +kernel
theorem dX7_trim_35 : decode cX7_trim 35 = .ok (.iaload, 1) := by decide +kernel
theorem dX7_trim_36 : decode cX7_trim 36 = .ok (.ifCond .ne 16, 3) := by decide +kernel
theorem dX7_trim_39 : decode cX7_trim 39 = .ok (.aload_n 0, 1) := by decide +kernel
theorem dX7_trim_40 : decode cX7_trim 40 = .ok (.getfield 19, 3) := by decide +kernel
theorem dX7_trim_43 : decode cX7_trim 43 = .ok (.getfield 115, 3) := by decide +kernel
theorem dX7_trim_46 : decode cX7_trim 46 = .ok (.iload_n 1, 1) := by decide +kernel
theorem dX7_trim_47 : decode cX7_trim 47 = .ok (.iaload, 1) := by decide +kernel
theorem dX7_trim_48 : decode cX7_trim 48 = .ok (.iload_n 2, 1) := by decide +kernel
theorem dX7_trim_49 : decode cX7_trim 49 = .ok (.if_icmp .gt 6, 3) := by decide +kernel
theorem dX7_trim_52 : decode cX7_trim 52 = .ok (.bipush (-3), 2) := by decide +kernel
theorem dX7_trim_54 : decode cX7_trim 54 = .ok (.ireturn, 1) := by decide +kernel
theorem dX7_trim_55 : decode cX7_trim 55 = .ok (.aload_n 0, 1) := by decide +kernel
theorem dX7_trim_56 : decode cX7_trim 56 = .ok (.invokevirtual 149, 3) := by decide +kernel
theorem dX7_trim_59 : decode cX7_trim 59 = .ok (.aload_n 0, 1) := by decide +kernel
theorem dX7_trim_60 : decode cX7_trim 60 = .ok (.getfield 19, 3) := by decide +kernel
theorem dX7_trim_63 : decode cX7_trim 63 = .ok (.getfield 118, 3) := by decide +kernel
theorem dX7_trim_66 : decode cX7_trim 66 = .ok (.iload_n 1, 1) := by decide +kernel
theorem dX7_trim_67 : decode cX7_trim 67 = .ok (.dup2, 1) := by decide +kernel
theorem dX7_trim_68 : decode cX7_trim 68 = .ok (.iaload, 1) := by decide +kernel
theorem dX7_trim_69 : decode cX7_trim 69 = .ok (.iload_n 2, 1) := by decide +kernel
theorem dX7_trim_70 : decode cX7_trim 70 = .ok (.iadd, 1) := by decide +kernel
theorem dX7_trim_71 : decode cX7_trim 71 = .ok (.iastore, 1) := by decide +kernel
theorem dX7_trim_72 : decode cX7_trim 72 = .ok (.aload_n 0, 1) := by decide +kernel
theorem dX7_trim_73 : decode cX7_trim 73 = .ok (.getfield 19, 3) := by decide +kernel
theorem dX7_trim_76 : decode cX7_trim 76 = .ok (.getfield 115, 3) := by decide +kernel
theorem dX7_trim_79 : decode cX7_trim 79 = .ok (.iload_n 1, 1) := by decide +kernel
theorem dX7_trim_80 : decode cX7_trim 80 = .ok (.dup2, 1) := by decide +kernel
theorem dX7_trim_81 : decode cX7_trim 81 = .ok (.iaload, 1) := by decide +kernel
theorem dX7_trim_82 : decode cX7_trim 82 = .ok (.iload_n 2, 1) := by decide +kernel
theorem dX7_trim_83 : decode cX7_trim 83 = .ok (.isub, 1) := by decide +kernel
theorem dX7_trim_84 : decode cX7_trim 84 = .ok (.iastore, 1) := by decide +kernel
theorem dX7_trim_85 : decode cX7_trim 85 = .ok (.aload_n 0, 1) := by decide +kernel
theorem dX7_trim_86 : decode cX7_trim 86 = .ok (.getfield 19, 3) := by decide +kernel
theorem dX7_trim_89 : decode cX7_trim 89 = .ok (.getfield 115, 3) := by decide +kernel
theorem dX7_trim_92 : decode cX7_trim 92 = .ok (.iload_n 1, 1) := by decide +kernel
theorem dX7_trim_93 : decode cX7_trim 93 = .ok (.iaload, 1) := by decide +kernel
theorem dX7_trim_94 : decode cX7_trim 94 = .ok (.ireturn, 1) := by decide +kernel
theorem dX7_step_0 : decode cX7_step 0 = .ok (.aload_n 0, 1) := by decide +kernel
theorem dX7_step_1 : decode cX7_step 1 = .ok (.getfield 19, 3) := by decide +kernel
theorem dX7_step_4 : decode cX7_step 4 = .ok (.getfield 161, 3) := by decide +kernel
theorem dX7_step_7 : decode cX7_step 7 = .ok (.bipush 20, 2) := by decide +kernel
theorem dX7_step_9 : decode cX7_step 9 = .ok (.if_icmp .lt 6, 3) := by decide +kernel
theorem dX7_step_12 : decode cX7_step 12 = .ok (.bipush (-3), 2) := by decide +kernel
theorem dX7_step_14 : decode cX7_step 14 = .ok (.ireturn, 1) := by decide +kernel
theorem dX7_step_15 : decode cX7_step 15 = .ok (.aload_n 0, 1) := by decide +kernel
theorem dX7_step_16 : decode cX7_step 16 = .ok (.invokevirtual 149, 3) := by decide +kernel
theorem dX7_step_19 : decode cX7_step 19 = .ok (.aload_n 0, 1) := by decide +kernel
theorem dX7_step_20 : decode cX7_step 20 = .ok (.getfield 19, 3) := by decide +kernel
theorem dX7_step_23 : decode cX7_step 23 = .ok (.aload_n 0, 1) := by decide +kernel
theorem dX7_step_24 : decode cX7_step 24 = .ok (.getfield 65, 3) := by decide +kernel
theorem dX7_step_27 : decode cX7_step 27 = .ok (.invokevirtual 164, 3) := by decide +kernel
theorem dX7_step_30 : decode cX7_step 30 = .ok (.ireturn, 1) := by decide +kernel
theorem dX7_undo_0 : decode cX7_undo 0 = .ok (.aload_n 0, 1) := by decide +kernel
theorem dX7_undo_1 : decode cX7_undo 1 = .ok (.getfield 29, 3) := by decide +kernel
theorem dX7_undo_4 : decode cX7_undo 4 = .ok (.getfield 167, 3) := by decide +kernel
theorem dX7_undo_7 : decode cX7_undo 7 = .ok (.ifCond .ne 6, 3) := by decide +kernel
theorem dX7_undo_10 : decode cX7_undo 10 = .ok (.bipush (-3), 2) := by decide +kernel
theorem dX7_undo_12 : decode cX7_undo 12 = .ok (.ireturn, 1) := by decide +kernel
theorem dX7_undo_13 : decode cX7_undo 13 = .ok (.aload_n 0, 1) := by decide +kernel
theorem dX7_undo_14 : decode cX7_undo 14 = .ok (.getfield 29, 3) := by decide +kernel
theorem dX7_undo_17 : decode cX7_undo 17 = .ok (.aload_n 0, 1) := by decide +kernel
theorem dX7_undo_18 : decode cX7_undo 18 = .ok (.getfield 19, 3) := by decide +kernel
theorem dX7_undo_21 : decode cX7_undo 21 = .ok (.invokevirtual 170, 3) := by decide +kernel
theorem dX7_undo_24 : decode cX7_undo 24 = .ok (.aload_n 0, 1) := by decide +kernel
theorem dX7_undo_25 : decode cX7_undo 25 = .ok (.getfield 36, 3) := by decide +kernel
theorem dX7_undo_28 : decode cX7_undo 28 = .ok (.iconst 0, 1) := by decide +kernel
theorem dX7_undo_29 : decode cX7_undo 29 = .ok (.putfield 94, 3) := by decide +kernel
theorem dX7_undo_32 : decode cX7_undo 32 = .ok (.aload_n 0, 1) := by decide +kernel
theorem dX7_undo_33 : decode cX7_undo 33 = .ok (.getfield 29, 3) := by decide +kernel
theorem dX7_undo_36 : decode cX7_undo 36 = .ok (.getfield 167, 3) := by decide +kernel
theorem dX7_undo_39 : decode cX7_undo 39 = .ok (.ireturn, 1) := by decide +kernel
theorem dX7_rememberAct_0 : decode cX7_rememberAct 0 = .ok (.aload_n 0, 1) := by decide +kernel
theorem dX7_rememberAct_1 : decode cX7_rememberAct 1 = .ok (.getfield 29, 3) := by decide +kernel
theorem dX7_rememberAct_4 : decode cX7_rememberAct 4 = .ok (.aload_n 0, 1) := by decide +kernel
theorem dX7_rememberAct_5 : decode cX7_rememberAct 5 = .ok (.getfield 19, 3) := by decide +kernel
theorem dX7_rememberAct_8 : decode cX7_rememberAct 8 = .ok (.invokevirtual 174, 3) := by decide +kernel
theorem dX7_rememberAct_11 : decode cX7_rememberAct 11 = .ok (.aload_n 0, 1) := by decide +kernel
theorem dX7_rememberAct_12 : decode cX7_rememberAct 12 = .ok (.getfield 36, 3) := by decide +kernel
theorem dX7_rememberAct_15 : decode cX7_rememberAct 15 = .ok (.iconst 0, 1) := by decide +kernel
theorem dX7_rememberAct_16 : decode cX7_rememberAct 16 = .ok (.putfield 94, 3) := by decide +kernel
theorem dX7_rememberAct_19 : decode cX7_rememberAct 19 = .ok (.return_, 1) := by decide +kernel
theorem dX7_plan_0 : decode cX7_plan 0 = .ok (.aload_n 0, 1) := by decide +kernel
theorem dX7_plan_1 : decode cX7_plan 1 = .ok (.getfield 36, 3) := by decide +kernel
theorem dX7_plan_4 : decode cX7_plan 4 = .ok (.aload_n 0, 1) := by decide +kernel
theorem dX7_plan_5 : decode cX7_plan 5 = .ok (.getfield 65, 3) := by decide +kernel
theorem dX7_plan_8 : decode cX7_plan 8 = .ok (.aload_n 0, 1) := by decide +kernel
theorem dX7_plan_9 : decode cX7_plan 9 = .ok (.getfield 19, 3) := by decide +kernel
theorem dX7_plan_12 : decode cX7_plan 12 = .ok (.invokevirtual 177, 3) := by decide +kernel
theorem dX7_plan_15 : decode cX7_plan 15 = .ok (.aload_n 0, 1) := by decide +kernel
theorem dX7_plan_16 : decode cX7_plan 16 = .ok (.getfield 36, 3) := by decide +kernel
theorem dX7_plan_19 : decode cX7_plan 19 = .ok (.invokevirtual 181, 3) := by decide +kernel
theorem dX7_plan_22 : decode cX7_plan 22 = .ok (.ireturn, 1) := by decide +kernel
theorem dX7_planOf_0 : decode cX7_planOf 0 = .ok (.aload_n 0, 1) := by decide +kernel
theorem dX7_planOf_1 : decode cX7_planOf 1 = .ok (.getfield 65, 3) := by decide +kernel
theorem dX7_planOf_4 : decode cX7_planOf 4 = .ok (.iload_n 1, 1) := by decide +kernel
theorem dX7_planOf_5 : decode cX7_planOf 5 = .ok (.invokevirtual 111, 3) := by decide +kernel
theorem dX7_planOf_8 : decode cX7_planOf 8 = .ok (.ifCond .ne 5, 3) := by decide +kernel
theorem dX7_planOf_11 : decode cX7_planOf 11 = .ok (.iconst (-1), 1) := by decide +kernel
theorem dX7_planOf_12 : decode cX7_planOf 12 = .ok (.ireturn, 1) := by decide +kernel
theorem dX7_planOf_13 : decode cX7_planOf 13 = .ok (.aload_n 0, 1) := by decide +kernel
theorem dX7_planOf_14 : decode cX7_planOf 14 = .ok (.getfield 36, 3) := by decide +kernel
theorem dX7_planOf_17 : decode cX7_planOf 17 = .ok (.aload_n 0, 1) := by decide +kernel
theorem dX7_planOf_18 : decode cX7_planOf 18 = .ok (.getfield 65, 3) := by decide +kernel
theorem dX7_planOf_21 : decode cX7_planOf 21 = .ok (.aload_n 0, 1) := by decide +kernel
theorem dX7_planOf_22 : decode cX7_planOf 22 = .ok (.getfield 19, 3) := by decide +kernel
theorem dX7_planOf_25 : decode cX7_planOf 25 = .ok (.invokevirtual 177, 3) := by decide +kernel
theorem dX7_planOf_28 : decode cX7_planOf 28 = .ok (.aload_n 0, 1) := by decide +kernel
theorem dX7_planOf_29 : decode cX7_planOf 29 = .ok (.getfield 36, 3) := by decide +kernel
theorem dX7_planOf_32 : decode cX7_planOf 32 = .ok (.invokevirtual 181, 3) := by decide +kernel
theorem dX7_planOf_35 : decode cX7_planOf 35 = .ok (.bipush (-9), 2) := by decide +kernel
theorem dX7_planOf_37 : decode cX7_planOf 37 = .ok (.if_icmp .ne 8, 3) := by decide +kernel
theorem dX7_planOf_40 : decode cX7_planOf 40 = .ok (.bipush (-9), 2) := by decide +kernel
theorem dX7_planOf_42 : decode cX7_planOf 42 = .ok (.goto 12, 3) := by decide +kernel
theorem dX7_planOf_45 : decode cX7_planOf 45 = .ok (.aload_n 0, 1) := by decide +kernel
theorem dX7_planOf_46 : decode cX7_planOf 46 = .ok (.getfield 36, 3) := by decide +kernel
theorem dX7_planOf_49 : decode cX7_planOf 49 = .ok (.getfield 184, 3) := by decide +kernel
theorem dX7_planOf_52 : decode cX7_planOf 52 = .ok (.iload_n 1, 1) := by decide +kernel
theorem dX7_planOf_53 : decode cX7_planOf 53 = .ok (.iaload, 1) := by decide +kernel
theorem dX7_planOf_54 : decode cX7_planOf 54 = .ok (.ireturn, 1) := by decide +kernel
theorem dX7_bars_0 : decode cX7_bars 0 = .ok (.aload_n 0, 1) := by decide +kernel
theorem dX7_bars_1 : decode cX7_bars 1 = .ok (.getfield 36, 3) := by decide +kernel
theorem dX7_bars_4 : decode cX7_bars 4 = .ok (.aload_n 0, 1) := by decide +kernel
theorem dX7_bars_5 : decode cX7_bars 5 = .ok (.getfield 65, 3) := by decide +kernel
theorem dX7_bars_8 : decode cX7_bars 8 = .ok (.aload_n 0, 1) := by decide +kernel
theorem dX7_bars_9 : decode cX7_bars 9 = .ok (.getfield 19, 3) := by decide +kernel
theorem dX7_bars_12 : decode cX7_bars 12 = .ok (.invokevirtual 177, 3) := by decide +kernel
theorem dX7_bars_15 : decode cX7_bars 15 = .ok (.iconst 0, 1) := by decide +kernel
theorem dX7_bars_16 : decode cX7_bars 16 = .ok (.istore_n 1, 1) := by decide +kernel
theorem dX7_bars_17 : decode cX7_bars 17 = .ok (.iload_n 1, 1) := by decide +kernel
theorem dX7_bars_18 : decode cX7_bars 18 = .ok (.aload_n 0, 1) := by decide +kernel
theorem dX7_bars_19 : decode cX7_bars 19 = .ok (.getfield 65, 3) := by decide +kernel
theorem dX7_bars_22 : decode cX7_bars 22 = .ok (.getfield 102, 3) := by decide +kernel
theorem dX7_bars_25 : decode cX7_bars 25 = .ok (.if_icmp .ge 25, 3) := by decide +kernel
theorem dX7_bars_28 : decode cX7_bars 28 = .ok (.aload_n 0, 1) := by decide +kernel
theorem dX7_bars_29 : decode cX7_bars 29 = .ok (.getfield 36, 3) := by decide +kernel
theorem dX7_bars_32 : decode cX7_bars 32 = .ok (.getfield 187, 3) := by decide +kernel
theorem dX7_bars_35 : decode cX7_bars 35 = .ok (.iload_n 1, 1) := by decide +kernel
theorem dX7_bars_36 : decode cX7_bars 36 = .ok (.ishr, 1) := by decide +kernel
theorem dX7_bars_37 : decode cX7_bars 37 = .ok (.iconst 1, 1) := by decide +kernel
theorem dX7_bars_38 : decode cX7_bars 38 = .ok (.iand, 1) := by decide +kernel
theorem dX7_bars_39 : decode cX7_bars 39 = .ok (.ifCond .ne 5, 3) := by decide +kernel
theorem dX7_bars_42 : decode cX7_bars 42 = .ok (.iload_n 1, 1) := by decide +kernel
theorem dX7_bars_43 : decode cX7_bars 43 = .ok (.ireturn, 1) := by decide +kernel
theorem dX7_bars_44 : decode cX7_bars 44 = .ok (.iinc 1 1, 3) := by decide +kernel
theorem dX7_bars_47 : decode cX7_bars 47 = .ok (.goto (-30), 3) := by decide +kernel
theorem dX7_bars_50 : decode cX7_bars 50 = .ok (.bipush (-9), 2) := by decide +kernel
theorem dX7_bars_52 : decode cX7_bars 52 = .ok (.ireturn, 1) := by decide +kernel
theorem dX7_share_0 : decode cX7_share 0 = .ok (.aload_n 0, 1) := by decide +kernel
theorem dX7_share_1 : decode cX7_share 1 = .ok (.getfield 65, 3) := by decide +kernel
theorem dX7_share_4 : decode cX7_share 4 = .ok (.iload_n 1, 1) := by decide +kernel
theorem dX7_share_5 : decode cX7_share 5 = .ok (.invokevirtual 127, 3) := by decide +kernel
theorem dX7_share_8 : decode cX7_share 8 = .ok (.ifCond .ne 5, 3) := by decide +kernel
theorem dX7_share_11 : decode cX7_share 11 = .ok (.iconst (-1), 1) := by decide +kernel
theorem dX7_share_12 : decode cX7_share 12 = .ok (.ireturn, 1) := by decide +kernel
theorem dX7_share_13 : decode cX7_share 13 = .ok (.aload_n 0, 1) := by decide +kernel
theorem dX7_share_14 : decode cX7_share 14 = .ok (.getfield 36, 3) := by decide +kernel
theorem dX7_share_17 : decode cX7_share 17 = .ok (.aload_n 0, 1) := by decide +kernel
theorem dX7_share_18 : decode cX7_share 18 = .ok (.getfield 65, 3) := by decide +kernel
theorem dX7_share_21 : decode cX7_share 21 = .ok (.aload_n 0, 1) := by decide +kernel
theorem dX7_share_22 : decode cX7_share 22 = .ok (.getfield 19, 3) := by decide +kernel
theorem dX7_share_25 : decode cX7_share 25 = .ok (.invokevirtual 177, 3) := by decide +kernel
theorem dX7_share_28 : decode cX7_share 28 = .ok (.aload_n 0, 1) := by decide +kernel
theorem dX7_share_29 : decode cX7_share 29 = .ok (.getfield 36, 3) := by decide +kernel
theorem dX7_share_32 : decode cX7_share 32 = .ok (.invokevirtual 181, 3) := by decide +kernel
theorem dX7_share_35 : decode cX7_share 35 = .ok (.bipush (-9), 2) := by decide +kernel
theorem dX7_share_37 : decode cX7_share 37 = .ok (.if_icmp .ne 6, 3) := by decide +kernel
theorem dX7_share_40 : decode cX7_share 40 = .ok (.bipush (-3), 2) := by decide +kernel
theorem dX7_share_42 : decode cX7_share 42 = .ok (.ireturn, 1) := by decide +kernel
theorem dX7_share_43 : decode cX7_share 43 = .ok (.aload_n 0, 1) := by decide +kernel
theorem dX7_share_44 : decode cX7_share 44 = .ok (.getfield 36, 3) := by decide +kernel
theorem dX7_share_47 : decode cX7_share 47 = .ok (.iload_n 1, 1) := by decide +kernel
theorem dX7_share_48 : decode cX7_share 48 = .ok (.invokevirtual 190, 3) := by decide +kernel
theorem dX7_share_51 : decode cX7_share 51 = .ok (.getstatic 193, 3) := by decide +kernel
theorem dX7_share_54 : decode cX7_share 54 = .ok (.aload_n 0, 1) := by decide +kernel
theorem dX7_share_55 : decode cX7_share 55 = .ok (.getfield 65, 3) := by decide +kernel
theorem dX7_share_58 : decode cX7_share 58 = .ok (.getfield 102, 3) := by decide +kernel
theorem dX7_share_61 : decode cX7_share 61 = .ok (.iaload, 1) := by decide +kernel
theorem dX7_share_62 : decode cX7_share 62 = .ok (.iload_n 2, 1) := by decide +kernel
theorem dX7_share_63 : decode cX7_share 63 = .ok (.invokestatic 196, 3) := by decide +kernel
theorem dX7_share_66 : decode cX7_share 66 = .ok (.ireturn, 1) := by decide +kernel
theorem dX7_table_0 : decode cX7_table 0 = .ok (.aload_n 0, 1) := by decide +kernel
theorem dX7_table_1 : decode cX7_table 1 = .ok (.getfield 65, 3) := by decide +kernel
theorem dX7_table_4 : decode cX7_table 4 = .ok (.iload_n 1, 1) := by decide +kernel
theorem dX7_table_5 : decode cX7_table 5 = .ok (.invokevirtual 111, 3) := by decide +kernel
theorem dX7_table_8 : decode cX7_table 8 = .ok (.ifCond .eq 14, 3) := by decide +kernel
theorem dX7_table_11 : decode cX7_table 11 = .ok (.aload_n 0, 1) := by decide +kernel
theorem dX7_table_12 : decode cX7_table 12 = .ok (.getfield 65, 3) := by decide +kernel
theorem dX7_table_15 : decode cX7_table 15 = .ok (.iload_n 2, 1) := by decide +kernel
theorem dX7_table_16 : decode cX7_table 16 = .ok (.invokevirtual 111, 3) := by decide +kernel
theorem dX7_table_19 : decode cX7_table 19 = .ok (.ifCond .ne 5, 3) := by decide +kernel
theorem dX7_table_22 : decode cX7_table 22 = .ok (.iconst (-1), 1) := by decide +kernel
theorem dX7_table_23 : decode cX7_table 23 = .ok (.ireturn, 1) := by decide +kernel
theorem dX7_table_24 : decode cX7_table 24 = .ok (.iload_n 1, 1) := by decide +kernel
theorem dX7_table_25 : decode cX7_table 25 = .ok (.iload_n 2, 1) := by decide +kernel
theorem dX7_table_26 : decode cX7_table 26 = .ok (.if_icmp .ne 8, 3) := by decide +kernel
theorem dX7_table_29 : decode cX7_table 29 = .ok (.bipush (-2), 2) := by decide +kernel
theorem dX7_table_31 : decode cX7_table 31 = .ok (.goto 9, 3) := by decide +kernel
theorem dX7_table_34 : decode cX7_table 34 = .ok (.aload_n 0, 1) := by decide +kernel
theorem dX7_table_35 : decode cX7_table 35 = .ok (.iload_n 1, 1) := by decide +kernel
theorem dX7_table_36 : decode cX7_table 36 = .ok (.iload_n 2, 1) := by decide +kernel
theorem dX7_table_37 : decode cX7_table 37 = .ok (.invokevirtual 200, 3) := by decide +kernel
theorem dX7_table_40 : decode cX7_table 40 = .ok (.ireturn, 1) := by decide +kernel
theorem dX7_pairs_0 : decode cX7_pairs 0 = .ok (.aload_n 0, 1) := by decide +kernel
theorem dX7_pairs_1 : decode cX7_pairs 1 = .ok (.getfield 19, 3) := by decide +kernel
theorem dX7_pairs_4 : decode cX7_pairs 4 = .ok (.aload_n 0, 1) := by decide +kernel
theorem dX7_pairs_5 : decode cX7_pairs 5 = .ok (.getfield 65, 3) := by decide +kernel
theorem dX7_pairs_8 : decode cX7_pairs 8 = .ok (.iconst 0, 1) := by decide +kernel
theorem dX7_pairs_9 : decode cX7_pairs 9 = .ok (.invokevirtual 152, 3) := by decide +kernel
theorem dX7_pairs_12 : decode cX7_pairs 12 = .ok (.istore_n 1, 1) := by decide +kernel
theorem dX7_pairs_13 : decode cX7_pairs 13 = .ok (.iload_n 1, 1) := by decide +kernel
theorem dX7_pairs_14 : decode cX7_pairs 14 = .ok (.invokestatic 156, 3) := by decide +kernel
theorem dX7_pairs_17 : decode cX7_pairs 17 = .ok (.iconst 2, 1) := by decide +kernel
theorem dX7_pairs_18 : decode cX7_pairs 18 = .ok (.irem, 1) := by decide +kernel
theorem dX7_pairs_19 : decode cX7_pairs 19 = .ok (.ifCond .ne 11, 3) := by decide +kernel
theorem dX7_pairs_22 : decode cX7_pairs 22 = .ok (.aload_n 0, 1) := by decide +kernel
theorem dX7_pairs_23 : decode cX7_pairs 23 = .ok (.iload_n 1, 1) := by decide +kernel
theorem dX7_pairs_24 : decode cX7_pairs 24 = .ok (.invokevirtual 204, 3) := by decide +kernel
theorem dX7_pairs_27 : decode cX7_pairs 27 = .ok (.goto 11, 3) := by decide +kernel
theorem dX7_pairs_30 : decode cX7_pairs 30 = .ok (.aload_n 0, 1) := by decide +kernel
theorem dX7_pairs_31 : decode cX7_pairs 31 = .ok (.iload_n 1, 1) := by decide +kernel
theorem dX7_pairs_32 : decode cX7_pairs 32 = .ok (.bipush 16, 2) := by decide +kernel
theorem dX7_pairs_34 : decode cX7_pairs 34 = .ok (.ior, 1) := by decide +kernel
theorem dX7_pairs_35 : decode cX7_pairs 35 = .ok (.invokevirtual 204, 3) := by decide +kernel
theorem dX7_pairs_38 : decode cX7_pairs 38 = .ok (.ireturn, 1) := by decide +kernel
theorem dX7_judge_0 : decode cX7_judge 0 = .ok (.iload_n 1, 1) := by decide +kernel
theorem dX7_judge_1 : decode cX7_judge 1 = .ok (.iconst 1, 1) := by decide +kernel
theorem dX7_judge_2 : decode cX7_judge 2 = .ok (.if_icmp .lt 22, 3) := by decide +kernel
theorem dX7_judge_5 : decode cX7_judge 5 = .ok (.iload_n 1, 1) := by decide +kernel
theorem dX7_judge_6 : decode cX7_judge 6 = .ok (.bipush 8, 2) := by decide +kernel
theorem dX7_judge_8 : decode cX7_judge 8 = .ok (.if_icmp .gt 16, 3) := by decide +kernel
theorem dX7_judge_11 : decode cX7_judge 11 = .ok (.iload_n 2, 1) := by decide +kernel
theorem dX7_judge_12 : decode cX7_judge 12 = .ok (.ifCond .lt 12, 3) := by decide +kernel
theorem dX7_judge_15 : decode cX7_judge 15 = .ok (.iload_n 2, 1) := by decide +kernel
theorem dX7_judge_16 : decode cX7_judge 16 = .ok (.getstatic 207, 3) := by decide +kernel
theorem dX7_judge_19 : decode cX7_judge 19 = .ok (.iload_n 1, 1) := by decide +kernel
theorem dX7_judge_20 : decode cX7_judge 20 = .ok (.iaload, 1) := by decide +kernel
theorem dX7_judge_21 : decode cX7_judge 21 = .ok (.if_icmp .lt 6, 3) := by decide +kernel
theorem dX7_judge_24 : decode cX7_judge 24 = .ok (.bipush (-2), 2) := by decide +kernel
theorem dX7_judge_26 : decode cX7_judge 26 = .ok (.ireturn, 1) := by decide +kernel
theorem dX7_judge_27 : decode cX7_judge 27 = .ok (.aload_n 0, 1) := by decide +kernel
theorem dX7_judge_28 : decode cX7_judge 28 = .ok (.getfield 23, 3) := by decide +kernel
theorem dX7_judge_31 : decode cX7_judge 31 = .ok (.aload_n 0, 1) := by decide +kernel
theorem dX7_judge_32 : decode cX7_judge 32 = .ok (.getfield 19, 3) := by decide +kernel
theorem dX7_judge_35 : decode cX7_judge 35 = .ok (.invokevirtual 210, 3) := by decide +kernel
theorem dX7_judge_38 : decode cX7_judge 38 = .ok (.iconst 0, 1) := by decide +kernel
theorem dX7_judge_39 : decode cX7_judge 39 = .ok (.istore_n 3, 1) := by decide +kernel
theorem dX7_judge_40 : decode cX7_judge 40 = .ok (.iload_n 3, 1) := by decide +kernel
theorem dX7_judge_41 : decode cX7_judge 41 = .ok (.iload_n 1, 1) := by decide +kernel
theorem dX7_judge_42 : decode cX7_judge 42 = .ok (.if_icmp .ge 24, 3) := by decide +kernel
theorem dX7_judge_45 : decode cX7_judge 45 = .ok (.aload_n 0, 1) := by decide +kernel
theorem dX7_judge_46 : decode cX7_judge 46 = .ok (.iload_n 2, 1) := by decide +kernel
theorem dX7_judge_47 : decode cX7_judge 47 = .ok (.iload_n 1, 1) := by decide +kernel
theorem dX7_judge_48 : decode cX7_judge 48 = .ok (.iload_n 3, 1) := by decide +kernel
theorem dX7_judge_49 : decode cX7_judge 49 = .ok (.invokestatic 213, 3) := by decide +kernel
theorem dX7_judge_52 : decode cX7_judge 52 = .ok (.invokevirtual 217, 3) := by decide +kernel
theorem dX7_judge_55 : decode cX7_judge 55 = .ok (.ifCond .ne 5, 3) := by decide +kernel
theorem dX7_judge_58 : decode cX7_judge 58 = .ok (.iload_n 3, 1) := by decide +kernel
theorem dX7_judge_59 : decode cX7_judge 59 = .ok (.ireturn, 1) := by decide +kernel
theorem dX7_judge_60 : decode cX7_judge 60 = .ok (.iinc 3 1, 3) := by decide +kernel
theorem dX7_judge_63 : decode cX7_judge 63 = .ok (.goto (-23), 3) := by decide +kernel
theorem dX7_judge_66 : decode cX7_judge 66 = .ok (.bipush (-9), 2) := by decide +kernel
theorem dX7_judge_68 : decode cX7_judge 68 = .ok (.ireturn, 1) := by decide +kernel
theorem dX7_goesWell_0 : decode cX7_goesWell 0 = .ok (.iload_n 1, 1) := by decide +kernel
theorem dX7_goesWell_1 : decode cX7_goesWell 1 = .ok (.iconst 4, 1) := by decide +kernel
theorem dX7_goesWell_2 : decode cX7_goesWell 2 = .ok (.if_icmp .ne 35, 3) := by decide +kernel
theorem dX7_goesWell_5 : decode cX7_goesWell 5 = .ok (.aload_n 0, 1) := by decide +kernel
theorem dX7_goesWell_6 : decode cX7_goesWell 6 = .ok (.getfield 23, 3) := by decide +kernel
theorem dX7_goesWell_9 : decode cX7_goesWell 9 = .ok (.getfield 161, 3) := by decide +kernel
theorem dX7_goesWell_12 : decode cX7_goesWell 12 = .ok (.bipush 20, 2) := by decide +kernel
theorem dX7_goesWell_14 : decode cX7_goesWell 14 = .ok (.if_icmp .ge 21, 3) := by decide +kernel
theorem dX7_goesWell_17 : decode cX7_goesWell 17 = .ok (.aload_n 0, 1) := by decide +kernel
theorem dX7_goesWell_18 : decode cX7_goesWell 18 = .ok (.getfield 23, 3) := by decide +kernel
theorem dX7_goesWell_21 : decode cX7_goesWell 21 = .ok (.aload_n 0, 1) := by decide +kernel
theorem dX7_goesWell_22 : decode cX7_goesWell 22 = .ok (.getfield 65, 3) := by decide +kernel
theorem dX7_goesWell_25 : decode cX7_goesWell 25 = .ok (.invokevirtual 164, 3) := by decide +kernel
theorem dX7_goesWell_28 : decode cX7_goesWell 28 = .ok (.ifCond .eq 7, 3) := by decide +kernel
theorem dX7_goesWell_31 : decode cX7_goesWell 31 = .ok (.iconst 1, 1) := by decide +kernel
theorem dX7_goesWell_32 : decode cX7_goesWell 32 = .ok (.goto 4, 3) := by decide +kernel
theorem dX7_goesWell_35 : decode cX7_goesWell 35 = .ok (.iconst 0, 1) := by decide +kernel
theorem dX7_goesWell_36 : decode cX7_goesWell 36 = .ok (.ireturn, 1) := by decide +kernel
theorem dX7_goesWell_37 : decode cX7_goesWell 37 = .ok (.aload_n 0, 1) := by decide +kernel
theorem dX7_goesWell_38 : decode cX7_goesWell 38 = .ok (.getfield 23, 3) := by decide +kernel
theorem dX7_goesWell_41 : decode cX7_goesWell 41 = .ok (.aload_n 0, 1) := by decide +kernel
theorem dX7_goesWell_42 : decode cX7_goesWell 42 = .ok (.getfield 65, 3) := by decide +kernel
theorem dX7_goesWell_45 : decode cX7_goesWell 45 = .ok (.iload_n 1, 1) := by decide +kernel
theorem dX7_goesWell_46 : decode cX7_goesWell 46 = .ok (.invokevirtual 220, 3) := by decide +kernel
theorem dX7_goesWell_49 : decode cX7_goesWell 49 = .ok (.ireturn, 1) := by decide +kernel
theorem dX7_mostOfPairs_0 : decode cX7_mostOfPairs 0 = .ok (.iload_n 1, 1) := by decide +kernel
theorem dX7_mostOfPairs_1 : decode cX7_mostOfPairs 1 = .ok (.invokestatic 223, 3) := by decide +kernel
theorem dX7_mostOfPairs_4 : decode cX7_mostOfPairs 4 = .ok (.istore_n 2, 1) := by decide +kernel
theorem dX7_mostOfPairs_5 : decode cX7_mostOfPairs 5 = .ok (.iconst 0, 1) := by decide +kernel
theorem dX7_mostOfPairs_6 : decode cX7_mostOfPairs 6 = .ok (.istore_n 3, 1) := by decide +kernel
theorem dX7_mostOfPairs_7 : decode cX7_mostOfPairs 7 = .ok (.iload_n 2, 1) := by decide +kernel
theorem dX7_mostOfPairs_8 : decode cX7_mostOfPairs 8 = .ok (.iconst 1, 1) := by decide +kernel
theorem dX7_mostOfPairs_9 : decode cX7_mostOfPairs 9 = .ok (.iadd, 1) := by decide +kernel
theorem dX7_mostOfPairs_10 : decode cX7_mostOfPairs 10 = .ok (.istore 4, 2) := by decide +kernel
theorem dX7_mostOfPairs_12 : decode cX7_mostOfPairs 12 = .ok (.iload 4, 2) := by decide +kernel
theorem dX7_mostOfPairs_14 : decode cX7_mostOfPairs 14 = .ok (.iconst 4, 1) := by decide +kernel
theorem dX7_mostOfPairs_15 : decode cX7_mostOfPairs 15 = .ok (.if_icmp .gt 73, 3) := by decide +kernel
theorem dX7_mostOfPairs_18 : decode cX7_mostOfPairs 18 = .ok (.iload_n 1, 1) := by decide +kernel
theorem dX7_mostOfPairs_19 : decode cX7_mostOfPairs 19 = .ok (.iload 4, 2) := by decide +kernel
theorem dX7_mostOfPairs_21 : decode cX7_mostOfPairs 21 = .ok (.ishr, 1) := by decide +kernel
theorem dX7_mostOfPairs_22 : decode cX7_mostOfPairs 22 = .ok (.iconst 1, 1) := by decide +kernel
theorem dX7_mostOfPairs_23 : decode cX7_mostOfPairs 23 = .ok (.iand, 1) := by decide +kernel
theorem dX7_mostOfPairs_24 : decode cX7_mostOfPairs 24 = .ok (.iconst 1, 1) := by decide +kernel
theorem dX7_mostOfPairs_25 : decode cX7_mostOfPairs 25 = .ok (.if_icmp .ne 57, 3) := by decide +kernel
theorem dX7_mostOfPairs_28 : decode cX7_mostOfPairs 28 = .ok (.iload_n 1, 1) := by decide +kernel
theorem dX7_mostOfPairs_29 : decode cX7_mostOfPairs 29 = .ok (.iconst 1, 1) := by decide +kernel
theorem dX7_mostOfPairs_30 : decode cX7_mostOfPairs 30 = .ok (.iload_n 2, 1) := by decide +kernel
theorem dX7_mostOfPairs_31 : decode cX7_mostOfPairs 31 = .ok (.ishl, 1) := by decide +kernel
theorem dX7_mostOfPairs_32 : decode cX7_mostOfPairs 32 = .ok (.iconst (-1), 1) := by decide +kernel
theorem dX7_mostOfPairs_33 : decode cX7_mostOfPairs 33 = .ok (.ixor, 1) := by decide +kernel
theorem dX7_mostOfPairs_34 : decode cX7_mostOfPairs 34 = .ok (.iand, 1) := by decide +kernel
theorem dX7_mostOfPairs_35 : decode cX7_mostOfPairs 35 = .ok (.iconst 1, 1) := by decide +kernel
theorem dX7_mostOfPairs_36 : decode cX7_mostOfPairs 36 = .ok (.iload 4, 2) := by decide +kernel
theorem dX7_mostOfPairs_38 : decode cX7_mostOfPairs 38 = .ok (.ishl, 1) := by decide +kernel
theorem dX7_mostOfPairs_39 : decode cX7_mostOfPairs 39 = .ok (.iconst (-1), 1) := by decide +kernel
theorem dX7_mostOfPairs_40 : decode cX7_mostOfPairs 40 = .ok (.ixor, 1) := by decide +kernel
theorem dX7_mostOfPairs_41 : decode cX7_mostOfPairs 41 = .ok (.iand, 1) := by decide +kernel
theorem dX7_mostOfPairs_42 : decode cX7_mostOfPairs 42 = .ok (.istore 5, 2) := by decide +kernel
theorem dX7_mostOfPairs_44 : decode cX7_mostOfPairs 44 = .ok (.iload 5, 2) := by decide +kernel
theorem dX7_mostOfPairs_46 : decode cX7_mostOfPairs 46 = .ok (.invokestatic 223, 3) := by decide +kernel
theorem dX7_mostOfPairs_49 : decode cX7_mostOfPairs 49 = .ok (.istore 6, 2) := by decide +kernel
theorem dX7_mostOfPairs_51 : decode cX7_mostOfPairs 51 = .ok (.bipush 31, 2) := by decide +kernel
theorem dX7_mostOfPairs_53 : decode cX7_mostOfPairs 53 = .ok (.iload 5, 2) := by decide +kernel
theorem dX7_mostOfPairs_55 : decode cX7_mostOfPairs 55 = .ok (.invokestatic 226, 3) := by decide +kernel
theorem dX7_mostOfPairs_58 : decode cX7_mostOfPairs 58 = .ok (.isub, 1) := by decide +kernel
theorem dX7_mostOfPairs_59 : decode cX7_mostOfPairs 59 = .ok (.istore 7, 2) := by decide +kernel
theorem dX7_mostOfPairs_61 : decode cX7_mostOfPairs 61 = .ok (.iload_n 3, 1) := by decide +kernel
theorem dX7_mostOfPairs_62 : decode cX7_mostOfPairs 62 = .ok (.aload_n 0, 1) := by decide +kernel
theorem dX7_mostOfPairs_63 : decode cX7_mostOfPairs 63 = .ok (.iload_n 2, 1) := by decide +kernel
theorem dX7_mostOfPairs_64 : decode cX7_mostOfPairs 64 = .ok (.iload 4, 2) := by decide +kernel
theorem dX7_mostOfPairs_66 : decode cX7_mostOfPairs 66 = .ok (.invokevirtual 200, 3) := by decide +kernel
theorem dX7_mostOfPairs_69 : decode cX7_mostOfPairs 69 = .ok (.aload_n 0, 1) := by decide +kernel
theorem dX7_mostOfPairs_70 : decode cX7_mostOfPairs 70 = .ok (.iload 6, 2) := by decide +kernel
theorem dX7_mostOfPairs_72 : decode cX7_mostOfPairs 72 = .ok (.iload 7, 2) := by decide +kernel
theorem dX7_mostOfPairs_74 : decode cX7_mostOfPairs 74 = .ok (.invokevirtual 200, 3) := by decide +kernel
theorem dX7_mostOfPairs_77 : decode cX7_mostOfPairs 77 = .ok (.iadd, 1) := by decide +kernel
theorem dX7_mostOfPairs_78 : decode cX7_mostOfPairs 78 = .ok (.invokestatic 229, 3) := by decide +kernel
theorem dX7_mostOfPairs_81 : decode cX7_mostOfPairs 81 = .ok (.istore_n 3, 1) := by decide +kernel
theorem dX7_mostOfPairs_82 : decode cX7_mostOfPairs 82 = .ok (.iinc 4 1, 3) := by decide +kernel
theorem dX7_mostOfPairs_85 : decode cX7_mostOfPairs 85 = .ok (.goto (-73), 3) := by decide +kernel
theorem dX7_mostOfPairs_88 : decode cX7_mostOfPairs 88 = .ok (.iload_n 3, 1) := by decide +kernel
theorem dX7_mostOfPairs_89 : decode cX7_mostOfPairs 89 = .ok (.ireturn, 1) := by decide +kernel
theorem dX7_giftsTogether_0 : decode cX7_giftsTogether 0 = .ok (.iconst 0, 1) := by decide +kernel
theorem dX7_giftsTogether_1 : decode cX7_giftsTogether 1 = .ok (.istore_n 3, 1) := by decide +kernel
theorem dX7_giftsTogether_2 : decode cX7_giftsTogether 2 = .ok (.iconst 0, 1) := by decide +kernel
theorem dX7_giftsTogether_3 : decode cX7_giftsTogether 3 = .ok (.istore 4, 2) := by decide +kernel
theorem dX7_giftsTogether_5 : decode cX7_giftsTogether 5 = .ok (.iload 4, 2) := by decide +kernel
theorem dX7_giftsTogether_7 : decode cX7_giftsTogether 7 = .ok (.bipush 6, 2) := by decide +kernel
theorem dX7_giftsTogether_9 : decode cX7_giftsTogether 9 = .ok (.if_icmp .ge 44, 3) := by decide +kernel
theorem dX7_giftsTogether_12 : decode cX7_giftsTogether 12 = .ok (.iload_n 3, 1) := by decide +kernel
theorem dX7_giftsTogether_13 : decode cX7_giftsTogether 13 = .ok (.aload_n 0, 1) := by decide +kernel
theorem dX7_giftsTogether_14 : decode cX7_giftsTogether 14 = .ok (.getfield 19, 3) := by decide +kernel
theorem dX7_giftsTogether_17 : decode cX7_giftsTogether 17 = .ok (.aload_n 0, 1) := by decide +kernel
theorem dX7_giftsTogether_18 : decode cX7_giftsTogether 18 = .ok (.getfield 65, 3) := by decide +kernel
theorem dX7_giftsTogether_21 : decode cX7_giftsTogether 21 = .ok (.iload_n 1, 1) := by decide +kernel
theorem dX7_giftsTogether_22 : decode cX7_giftsTogether 22 = .ok (.iload 4, 2) := by decide +kernel
theorem dX7_giftsTogether_24 : decode cX7_giftsTogether 24 = .ok (.invokevirtual 234, 3) := by decide +kernel
theorem dX7_giftsTogether_27 : decode cX7_giftsTogether 27 = .ok (.aload_n 0, 1) := by decide +kernel
theorem dX7_giftsTogether_28 : decode cX7_giftsTogether 28 = .ok (.getfield 19, 3) := by decide +kernel
theorem dX7_giftsTogether_31 : decode cX7_giftsTogether 31 = .ok (.aload_n 0, 1) := by decide +kernel
theorem dX7_giftsTogether_32 : decode cX7_giftsTogether 32 = .ok (.getfield 65, 3) := by decide +kernel
theorem dX7_giftsTogether_35 : decode cX7_giftsTogether 35 = .ok (.iload_n 2, 1) := by decide +kernel
theorem dX7_giftsTogether_36 : decode cX7_giftsTogether 36 = .ok (.iload 4, 2) := by decide +kernel
theorem dX7_giftsTogether_38 : decode cX7_giftsTogether 38 = .ok (.invokevirtual 234, 3) := by decide +kernel
theorem dX7_giftsTogether_41 : decode cX7_giftsTogether 41 = .ok (.ior, 1) := by decide +kernel
theorem dX7_giftsTogether_42 : decode cX7_giftsTogether 42 = .ok (.invokestatic 156, 3) := by decide +kernel
theorem dX7_giftsTogether_45 : decode cX7_giftsTogether 45 = .ok (.iadd, 1) := by decide +kernel
theorem dX7_giftsTogether_46 : decode cX7_giftsTogether 46 = .ok (.istore_n 3, 1) := by decide +kernel
theorem dX7_giftsTogether_47 : decode cX7_giftsTogether 47 = .ok (.iinc 4 1, 3) := by decide +kernel
theorem dX7_giftsTogether_50 : decode cX7_giftsTogether 50 = .ok (.goto (-45), 3) := by decide +kernel
theorem dX7_giftsTogether_53 : decode cX7_giftsTogether 53 = .ok (.iload_n 3, 1) := by decide +kernel
theorem dX7_giftsTogether_54 : decode cX7_giftsTogether 54 = .ok (.ireturn, 1) := by decide +kernel
theorem dX7_stub_0 : decode cX7_stub 0 = .ok (.iload_n 1, 1) := by decide +kernel
theorem dX7_stub_1 : decode cX7_stub 1 = .ok (.iconst 1, 1) := by decide +kernel
theorem dX7_stub_2 : decode cX7_stub 2 = .ok (.if_icmp .lt 21, 3) := by decide +kernel
theorem dX7_stub_5 : decode cX7_stub 5 = .ok (.iload_n 1, 1) := by decide +kernel
theorem dX7_stub_6 : decode cX7_stub 6 = .ok (.iconst 3, 1) := by decide +kernel
theorem dX7_stub_7 : decode cX7_stub 7 = .ok (.if_icmp .gt 16, 3) := by decide +kernel
theorem dX7_stub_10 : decode cX7_stub 10 = .ok (.iload_n 2, 1) := by decide +kernel
theorem dX7_stub_11 : decode cX7_stub 11 = .ok (.ifCond .lt 12, 3) := by decide +kernel
theorem dX7_stub_14 : decode cX7_stub 14 = .ok (.iload_n 2, 1) := by decide +kernel
theorem dX7_stub_15 : decode cX7_stub 15 = .ok (.getstatic 207, 3) := by decide +kernel
theorem dX7_stub_18 : decode cX7_stub 18 = .ok (.iload_n 1, 1) := by decide +kernel
theorem dX7_stub_19 : decode cX7_stub 19 = .ok (.iaload, 1) := by decide +kernel
theorem dX7_stub_20 : decode cX7_stub 20 = .ok (.if_icmp .lt 6, 3) := by decide +kernel
theorem dX7_stub_23 : decode cX7_stub 23 = .ok (.bipush (-2), 2) := by decide +kernel
theorem dX7_stub_25 : decode cX7_stub 25 = .ok (.ireturn, 1) := by decide +kernel
theorem dX7_stub_26 : decode cX7_stub 26 = .ok (.iconst 0, 1) := by decide +kernel
theorem dX7_stub_27 : decode cX7_stub 27 = .ok (.istore 4, 2) := by decide +kernel
theorem dX7_stub_29 : decode cX7_stub 29 = .ok (.iload 4, 2) := by decide +kernel
theorem dX7_stub_31 : decode cX7_stub 31 = .ok (.iload_n 1, 1) := by decide +kernel
theorem dX7_stub_32 : decode cX7_stub 32 = .ok (.if_icmp .ge 23, 3) := by decide +kernel
theorem dX7_stub_35 : decode cX7_stub 35 = .ok (.iload_n 2, 1) := by decide +kernel
theorem dX7_stub_36 : decode cX7_stub 36 = .ok (.iload_n 1, 1) := by decide +kernel
theorem dX7_stub_37 : decode cX7_stub 37 = .ok (.iload 4, 2) := by decide +kernel
theorem dX7_stub_39 : decode cX7_stub 39 = .ok (.invokestatic 213, 3) := by decide +kernel
theorem dX7_stub_42 : decode cX7_stub 42 = .ok (.iconst 4, 1) := by decide +kernel
theorem dX7_stub_43 : decode cX7_stub 43 = .ok (.if_icmp .le 6, 3) := by decide +kernel
theorem dX7_stub_46 : decode cX7_stub 46 = .ok (.bipush (-2), 2) := by decide +kernel
theorem dX7_stub_48 : decode cX7_stub 48 = .ok (.ireturn, 1) := by decide +kernel
theorem dX7_stub_49 : decode cX7_stub 49 = .ok (.iinc 4 1, 3) := by decide +kernel
theorem dX7_stub_52 : decode cX7_stub 52 = .ok (.goto (-23), 3) := by decide +kernel
theorem dX7_stub_55 : decode cX7_stub 55 = .ok (.iload_n 3, 1) := by decide +kernel
theorem dX7_stub_56 : decode cX7_stub 56 = .ok (.ifCond .eq 12, 3) := by decide +kernel
theorem dX7_stub_59 : decode cX7_stub 59 = .ok (.aload_n 0, 1) := by decide +kernel
theorem dX7_stub_60 : decode cX7_stub 60 = .ok (.iload_n 1, 1) := by decide +kernel
theorem dX7_stub_61 : decode cX7_stub 61 = .ok (.iload_n 2, 1) := by decide +kernel
theorem dX7_stub_62 : decode cX7_stub 62 = .ok (.invokevirtual 238, 3) := by decide +kernel
theorem dX7_stub_65 : decode cX7_stub 65 = .ok (.goto 9, 3) := by decide +kernel
theorem dX7_stub_68 : decode cX7_stub 68 = .ok (.aload_n 0, 1) := by decide +kernel
theorem dX7_stub_69 : decode cX7_stub 69 = .ok (.iload_n 1, 1) := by decide +kernel
theorem dX7_stub_70 : decode cX7_stub 70 = .ok (.iload_n 2, 1) := by decide +kernel
theorem dX7_stub_71 : decode cX7_stub 71 = .ok (.invokevirtual 241, 3) := by decide +kernel
theorem dX7_stub_74 : decode cX7_stub 74 = .ok (.ireturn, 1) := by decide +kernel
theorem dX7_candlesEndingSo_0 : decode cX7_candlesEndingSo 0 = .ok (.iconst 0, 1) := by decide +kernel
theorem dX7_candlesEndingSo_1 : decode cX7_candlesEndingSo 1 = .ok (.istore_n 3, 1) := by decide +kernel
theorem dX7_candlesEndingSo_2 : decode cX7_candlesEndingSo 2 = .ok (.iconst 0, 1) := by decide +kernel
theorem dX7_candlesEndingSo_3 : decode cX7_candlesEndingSo 3 = .ok (.istore 4, 2) := by decide +kernel
theorem dX7_candlesEndingSo_5 : decode cX7_candlesEndingSo 5 = .ok (.iload 4, 2) := by decide +kernel
theorem dX7_candlesEndingSo_7 : decode cX7_candlesEndingSo 7 = .ok (.aload_n 0, 1) := by decide +kernel
theorem dX7_candlesEndingSo_8 : decode cX7_candlesEndingSo 8 = .ok (.getfield 65, 3) := by decide +kernel
theorem dX7_candlesEndingSo_11 : decode cX7_candlesEndingSo 11 = .ok (.getfield 98, 3) := by decide +kernel
theorem dX7_candlesEndingSo_14 : decode cX7_candlesEndingSo 14 = .ok (.if_icmp .ge 60, 3) := by decide +kernel
theorem dX7_candlesEndingSo_17 : decode cX7_candlesEndingSo 17 = .ok (.aload_n 0, 1) := by decide +kernel
theorem dX7_candlesEndingSo_18 : decode cX7_candlesEndingSo 18 = .ok (.getfield 65, 3) := by decide +kernel
theorem dX7_candlesEndingSo_21 : decode cX7_candlesEndingSo 21 = .ok (.getfield 244, 3) := by decide +kernel
theorem dX7_candlesEndingSo_24 : decode cX7_candlesEndingSo 24 = .ok (.iload 4, 2) := by decide +kernel
theorem dX7_candlesEndingSo_26 : decode cX7_candlesEndingSo 26 = .ok (.iaload, 1) := by decide +kernel
theorem dX7_candlesEndingSo_27 : decode cX7_candlesEndingSo 27 = .ok (.iload_n 1, 1) := by decide +kernel
theorem dX7_candlesEndingSo_28 : decode cX7_candlesEndingSo 28 = .ok (.if_icmp .lt 40, 3) := by decide +kernel
theorem dX7_candlesEndingSo_31 : decode cX7_candlesEndingSo 31 = .ok (.aload_n 0, 1) := by decide +kernel
theorem dX7_candlesEndingSo_32 : decode cX7_candlesEndingSo 32 = .ok (.aload_n 0, 1) := by decide +kernel
theorem dX7_candlesEndingSo_33 : decode cX7_candlesEndingSo 33 = .ok (.getfield 65, 3) := by decide +kernel
theorem dX7_candlesEndingSo_36 : decode cX7_candlesEndingSo 36 = .ok (.getfield 247, 3) := by decide +kernel
theorem dX7_candlesEndingSo_39 : decode cX7_candlesEndingSo 39 = .ok (.iload 4, 2) := by decide +kernel
theorem dX7_candlesEndingSo_41 : decode cX7_candlesEndingSo 41 = .ok (.iaload, 1) := by decide +kernel
theorem dX7_candlesEndingSo_42 : decode cX7_candlesEndingSo 42 = .ok (.aload_n 0, 1) := by decide +kernel
theorem dX7_candlesEndingSo_43 : decode cX7_candlesEndingSo 43 = .ok (.getfield 65, 3) := by decide +kernel
theorem dX7_candlesEndingSo_46 : decode cX7_candlesEndingSo 46 = .ok (.getfield 244, 3) := by decide +kernel
theorem dX7_candlesEndingSo_49 : decode cX7_candlesEndingSo 49 = .ok (.iload 4, 2) := by decide +kernel
theorem dX7_candlesEndingSo_51 : decode cX7_candlesEndingSo 51 = .ok (.iaload, 1) := by decide +kernel
theorem dX7_candlesEndingSo_52 : decode cX7_candlesEndingSo 52 = .ok (.iadd, 1) := by decide +kernel
theorem dX7_candlesEndingSo_53 : decode cX7_candlesEndingSo 53 = .ok (.iload_n 1, 1) := by decide +kernel
theorem dX7_candlesEndingSo_54 : decode cX7_candlesEndingSo 54 = .ok (.iload_n 2, 1) := by decide +kernel
theorem dX7_candlesEndingSo_55 : decode cX7_candlesEndingSo 55 = .ok (.invokevirtual 250, 3) := by decide +kernel
theorem dX7_candlesEndingSo_58 : decode cX7_candlesEndingSo 58 = .ok (.ifCond .eq 10, 3) := by decide +kernel
theorem dX7_candlesEndingSo_61 : decode cX7_candlesEndingSo 61 = .ok (.iload_n 3, 1) := by decide +kernel
theorem dX7_candlesEndingSo_62 : decode cX7_candlesEndingSo 62 = .ok (.iconst 1, 1) := by decide +kernel
theorem dX7_candlesEndingSo_63 : decode cX7_candlesEndingSo 63 = .ok (.iload 4, 2) := by decide +kernel
theorem dX7_candlesEndingSo_65 : decode cX7_candlesEndingSo 65 = .ok (.ishl, 1) := by decide +kernel
theorem dX7_candlesEndingSo_66 : decode cX7_candlesEndingSo 66 = .ok (.ior, 1) := by decide +kernel
theorem dX7_candlesEndingSo_67 : decode cX7_candlesEndingSo 67 = .ok (.istore_n 3, 1) := by decide +kernel
theorem dX7_candlesEndingSo_68 : decode cX7_candlesEndingSo 68 = .ok (.iinc 4 1, 3) := by decide +kernel
theorem dX7_candlesEndingSo_71 : decode cX7_candlesEndingSo 71 = .ok (.goto (-66), 3) := by decide +kernel
theorem dX7_candlesEndingSo_74 : decode cX7_candlesEndingSo 74 = .ok (.iload_n 3, 1) := by decide +kernel
theorem dX7_candlesEndingSo_75 : decode cX7_candlesEndingSo 75 = .ok (.ireturn, 1) := by decide +kernel
theorem dX7_placesEndingSo_0 : decode cX7_placesEndingSo 0 = .ok (.iconst 0, 1) := by decide +kernel
theorem dX7_placesEndingSo_1 : decode cX7_placesEndingSo 1 = .ok (.istore_n 3, 1) := by decide +kernel
theorem dX7_placesEndingSo_2 : decode cX7_placesEndingSo 2 = .ok (.iload_n 1, 1) := by decide +kernel
theorem dX7_placesEndingSo_3 : decode cX7_placesEndingSo 3 = .ok (.istore 4, 2) := by decide +kernel
theorem dX7_placesEndingSo_5 : decode cX7_placesEndingSo 5 = .ok (.iload 4, 2) := by decide +kernel
theorem dX7_placesEndingSo_7 : decode cX7_placesEndingSo 7 = .ok (.aload_n 0, 1) := by decide +kernel
theorem dX7_placesEndingSo_8 : decode cX7_placesEndingSo 8 = .ok (.getfield 65, 3) := by decide +kernel
theorem dX7_placesEndingSo_11 : decode cX7_placesEndingSo 11 = .ok (.getfield 105, 3) := by decide +kernel
theorem dX7_placesEndingSo_14 : decode cX7_placesEndingSo 14 = .ok (.if_icmp .gt 23, 3) := by decide +kernel
theorem dX7_placesEndingSo_17 : decode cX7_placesEndingSo 17 = .ok (.aload_n 0, 1) := by decide +kernel
theorem dX7_placesEndingSo_18 : decode cX7_placesEndingSo 18 = .ok (.iload 4, 2) := by decide +kernel
theorem dX7_placesEndingSo_20 : decode cX7_placesEndingSo 20 = .ok (.iload_n 1, 1) := by decide +kernel
theorem dX7_placesEndingSo_21 : decode cX7_placesEndingSo 21 = .ok (.iload_n 2, 1) := by decide +kernel
theorem dX7_placesEndingSo_22 : decode cX7_placesEndingSo 22 = .ok (.invokevirtual 250, 3) := by decide +kernel
theorem dX7_placesEndingSo_25 : decode cX7_placesEndingSo 25 = .ok (.ifCond .eq 6, 3) := by decide +kernel
theorem dX7_placesEndingSo_28 : decode cX7_placesEndingSo 28 = .ok (.iinc 3 1, 3) := by decide +kernel
theorem dX7_placesEndingSo_31 : decode cX7_placesEndingSo 31 = .ok (.iinc 4 1, 3) := by decide +kernel
theorem dX7_placesEndingSo_34 : decode cX7_placesEndingSo 34 = .ok (.goto (-29), 3) := by decide +kernel
theorem dX7_placesEndingSo_37 : decode cX7_placesEndingSo 37 = .ok (.iload_n 3, 1) := by decide +kernel
theorem dX7_placesEndingSo_38 : decode cX7_placesEndingSo 38 = .ok (.ireturn, 1) := by decide +kernel
theorem dX7_endsSo_0 : decode cX7_endsSo 0 = .ok (.iconst 0, 1) := by decide +kernel
theorem dX7_endsSo_1 : decode cX7_endsSo 1 = .ok (.istore 4, 2) := by decide +kernel
theorem dX7_endsSo_3 : decode cX7_endsSo 3 = .ok (.iload 4, 2) := by decide +kernel
theorem dX7_endsSo_5 : decode cX7_endsSo 5 = .ok (.iload_n 2, 1) := by decide +kernel
theorem dX7_endsSo_6 : decode cX7_endsSo 6 = .ok (.if_icmp .ge 49, 3) := by decide +kernel
theorem dX7_endsSo_9 : decode cX7_endsSo 9 = .ok (.iload_n 3, 1) := by decide +kernel
theorem dX7_endsSo_10 : decode cX7_endsSo 10 = .ok (.iload_n 2, 1) := by decide +kernel
theorem dX7_endsSo_11 : decode cX7_endsSo 11 = .ok (.iload 4, 2) := by decide +kernel
theorem dX7_endsSo_13 : decode cX7_endsSo 13 = .ok (.invokestatic 213, 3) := by decide +kernel
theorem dX7_endsSo_16 : decode cX7_endsSo 16 = .ok (.istore 5, 2) := by decide +kernel
theorem dX7_endsSo_18 : decode cX7_endsSo 18 = .ok (.aload_n 0, 1) := by decide +kernel
theorem dX7_endsSo_19 : decode cX7_endsSo 19 = .ok (.getfield 65, 3) := by decide +kernel
theorem dX7_endsSo_22 : decode cX7_endsSo 22 = .ok (.iload_n 1, 1) := by decide +kernel
theorem dX7_endsSo_23 : decode cX7_endsSo 23 = .ok (.iload_n 2, 1) := by decide +kernel
theorem dX7_endsSo_24 : decode cX7_endsSo 24 = .ok (.isub, 1) := by decide +kernel
theorem dX7_endsSo_25 : decode cX7_endsSo 25 = .ok (.iload 4, 2) := by decide +kernel
theorem dX7_endsSo_27 : decode cX7_endsSo 27 = .ok (.iadd, 1) := by decide +kernel
theorem dX7_endsSo_28 : decode cX7_endsSo 28 = .ok (.invokevirtual 108, 3) := by decide +kernel
theorem dX7_endsSo_31 : decode cX7_endsSo 31 = .ok (.iload 5, 2) := by decide +kernel
theorem dX7_endsSo_33 : decode cX7_endsSo 33 = .ok (.ifCond .ne 7, 3) := by decide +kernel
theorem dX7_endsSo_36 : decode cX7_endsSo 36 = .ok (.iconst 4, 1) := by decide +kernel
theorem dX7_endsSo_37 : decode cX7_endsSo 37 = .ok (.goto 7, 3) := by decide +kernel
theorem dX7_endsSo_40 : decode cX7_endsSo 40 = .ok (.iload 5, 2) := by decide +kernel
theorem dX7_endsSo_42 : decode cX7_endsSo 42 = .ok (.iconst 1, 1) := by decide +kernel
theorem dX7_endsSo_43 : decode cX7_endsSo 43 = .ok (.isub, 1) := by decide +kernel
theorem dX7_endsSo_44 : decode cX7_endsSo 44 = .ok (.if_icmp .eq 5, 3) := by decide +kernel
theorem dX7_endsSo_47 : decode cX7_endsSo 47 = .ok (.iconst 0, 1) := by decide +kernel
theorem dX7_endsSo_48 : decode cX7_endsSo 48 = .ok (.ireturn, 1) := by decide +kernel
theorem dX7_endsSo_49 : decode cX7_endsSo 49 = .ok (.iinc 4 1, 3) := by decide +kernel
theorem dX7_endsSo_52 : decode cX7_endsSo 52 = .ok (.goto (-49), 3) := by decide +kernel
theorem dX7_endsSo_55 : decode cX7_endsSo 55 = .ok (.iconst 1, 1) := by decide +kernel
theorem dX7_endsSo_56 : decode cX7_endsSo 56 = .ok (.ireturn, 1) := by decide +kernel
theorem dX7_see_0 : decode cX7_see 0 = .ok (.iload_n 1, 1) := by decide +kernel
theorem dX7_see_1 : decode cX7_see 1 = .ok (.ifCond .lt 8, 3) := by decide +kernel
theorem dX7_see_4 : decode cX7_see 4 = .ok (.iload_n 1, 1) := by decide +kernel
theorem dX7_see_5 : decode cX7_see 5 = .ok (.iconst 4, 1) := by decide +kernel
theorem dX7_see_6 : decode cX7_see 6 = .ok (.if_icmp .le 6, 3) := by decide +kernel
theorem dX7_see_9 : decode cX7_see 9 = .ok (.bipush (-2), 2) := by decide +kernel
theorem dX7_see_11 : decode cX7_see 11 = .ok (.ireturn, 1) := by decide +kernel
theorem dX7_see_12 : decode cX7_see 12 = .ok (.aload_n 0, 1) := by decide +kernel
theorem dX7_see_13 : decode cX7_see 13 = .ok (.getfield 43, 3) := by decide +kernel
theorem dX7_see_16 : decode cX7_see 16 = .ok (.iload_n 1, 1) := by decide +kernel
theorem dX7_see_17 : decode cX7_see 17 = .ok (.invokevirtual 254, 3) := by decide +kernel
theorem dX7_see_20 : decode cX7_see 20 = .ok (.ireturn, 1) := by decide +kernel
theorem dX7_unsee_0 : decode cX7_unsee 0 = .ok (.aload_n 0, 1) := by decide +kernel
theorem dX7_unsee_1 : decode cX7_unsee 1 = .ok (.getfield 43, 3) := by decide +kernel
theorem dX7_unsee_4 : decode cX7_unsee 4 = .ok (.invokevirtual 256, 3) := by decide +kernel
theorem dX7_unsee_7 : decode cX7_unsee 7 = .ok (.ireturn, 1) := by decide +kernel
theorem dX7_from_0 : decode cX7_from 0 = .ok (.iload_n 1, 1) := by decide +kernel
theorem dX7_from_1 : decode cX7_from 1 = .ok (.iconst 1, 1) := by decide +kernel
theorem dX7_from_2 : decode cX7_from 2 = .ok (.if_icmp .lt 9, 3) := by decide +kernel
theorem dX7_from_5 : decode cX7_from 5 = .ok (.iload_n 1, 1) := by decide +kernel
theorem dX7_from_6 : decode cX7_from 6 = .ok (.bipush 6, 2) := by decide +kernel
theorem dX7_from_8 : decode cX7_from 8 = .ok (.if_icmp .le 8, 3) := by decide +kernel
theorem dX7_from_11 : decode cX7_from 11 = .ok (.bipush (-2), 2) := by decide +kernel
theorem dX7_from_13 : decode cX7_from 13 = .ok (.goto 15, 3) := by decide +kernel
theorem dX7_from_16 : decode cX7_from 16 = .ok (.aload_n 0, 1) := by decide +kernel
theorem dX7_from_17 : decode cX7_from 17 = .ok (.getfield 43, 3) := by decide +kernel
theorem dX7_from_20 : decode cX7_from 20 = .ok (.aload_n 0, 1) := by decide +kernel
theorem dX7_from_21 : decode cX7_from 21 = .ok (.getfield 65, 3) := by decide +kernel
theorem dX7_from_24 : decode cX7_from 24 = .ok (.iload_n 1, 1) := by decide +kernel
theorem dX7_from_25 : decode cX7_from 25 = .ok (.invokevirtual 257, 3) := by decide +kernel
theorem dX7_from_28 : decode cX7_from 28 = .ok (.ireturn, 1) := by decide +kernel
theorem dX7_next_0 : decode cX7_next 0 = .ok (.iload_n 1, 1) := by decide +kernel
theorem dX7_next_1 : decode cX7_next 1 = .ok (.iconst 1, 1) := by decide +kernel
theorem dX7_next_2 : decode cX7_next 2 = .ok (.if_icmp .lt 18, 3) := by decide +kernel
theorem dX7_next_5 : decode cX7_next 5 = .ok (.iload_n 1, 1) := by decide +kernel
theorem dX7_next_6 : decode cX7_next 6 = .ok (.bipush 6, 2) := by decide +kernel
theorem dX7_next_8 : decode cX7_next 8 = .ok (.if_icmp .gt 12, 3) := by decide +kernel
theorem dX7_next_11 : decode cX7_next 11 = .ok (.iload_n 2, 1) := by decide +kernel
theorem dX7_next_12 : decode cX7_next 12 = .ok (.ifCond .lt 8, 3) := by decide +kernel
theorem dX7_next_15 : decode cX7_next 15 = .ok (.iload_n 2, 1) := by decide +kernel
theorem dX7_next_16 : decode cX7_next 16 = .ok (.iconst 4, 1) := by decide +kernel
theorem dX7_next_17 : decode cX7_next 17 = .ok (.if_icmp .le 6, 3) := by decide +kernel
theorem dX7_next_20 : decode cX7_next 20 = .ok (.bipush (-2), 2) := by decide +kernel
theorem dX7_next_22 : decode cX7_next 22 = .ok (.ireturn, 1) := by decide +kernel
theorem dX7_next_23 : decode cX7_next 23 = .ok (.aload_n 0, 1) := by decide +kernel
theorem dX7_next_24 : decode cX7_next 24 = .ok (.getfield 43, 3) := by decide +kernel
theorem dX7_next_27 : decode cX7_next 27 = .ok (.aload_n 0, 1) := by decide +kernel
theorem dX7_next_28 : decode cX7_next 28 = .ok (.getfield 65, 3) := by decide +kernel
theorem dX7_next_31 : decode cX7_next 31 = .ok (.iload_n 1, 1) := by decide +kernel
theorem dX7_next_32 : decode cX7_next 32 = .ok (.invokevirtual 257, 3) := by decide +kernel
theorem dX7_next_35 : decode cX7_next 35 = .ok (.istore 4, 2) := by decide +kernel
theorem dX7_next_37 : decode cX7_next 37 = .ok (.iload 4, 2) := by decide +kernel
theorem dX7_next_39 : decode cX7_next 39 = .ok (.ifCond .eq 14, 3) := by decide +kernel
theorem dX7_next_42 : decode cX7_next 42 = .ok (.aload_n 0, 1) := by decide +kernel
theorem dX7_next_43 : decode cX7_next 43 = .ok (.getfield 43, 3) := by decide +kernel
theorem dX7_next_46 : decode cX7_next 46 = .ok (.getfield 260, 3) := by decide +kernel
theorem dX7_next_49 : decode cX7_next 49 = .ok (.iload_n 1, 1) := by decide +kernel
theorem dX7_next_50 : decode cX7_next 50 = .ok (.if_icmp .lt 6, 3) := by decide +kernel
theorem dX7_next_53 : decode cX7_next 53 = .ok (.bipush (-3), 2) := by decide +kernel
theorem dX7_next_55 : decode cX7_next 55 = .ok (.ireturn, 1) := by decide +kernel
theorem dX7_next_56 : decode cX7_next 56 = .ok (.iconst 0, 1) := by decide +kernel
theorem dX7_next_57 : decode cX7_next 57 = .ok (.istore 5, 2) := by decide +kernel
theorem dX7_next_59 : decode cX7_next 59 = .ok (.iconst 0, 1) := by decide +kernel
theorem dX7_next_60 : decode cX7_next 60 = .ok (.istore 6, 2) := by decide +kernel
theorem dX7_next_62 : decode cX7_next 62 = .ok (.iload 6, 2) := by decide +kernel
theorem dX7_next_64 : decode cX7_next 64 = .ok (.aload_n 0, 1) := by decide +kernel
theorem dX7_next_65 : decode cX7_next 65 = .ok (.getfield 65, 3) := by decide +kernel
theorem dX7_next_68 : decode cX7_next 68 = .ok (.getfield 105, 3) := by decide +kernel
theorem dX7_next_71 : decode cX7_next 71 = .ok (.if_icmp .ge 44, 3) := by decide +kernel
theorem dX7_next_74 : decode cX7_next 74 = .ok (.iload 4, 2) := by decide +kernel
theorem dX7_next_76 : decode cX7_next 76 = .ok (.iload 6, 2) := by decide +kernel
theorem dX7_next_78 : decode cX7_next 78 = .ok (.ishr, 1) := by decide +kernel
theorem dX7_next_79 : decode cX7_next 79 = .ok (.iconst 1, 1) := by decide +kernel
theorem dX7_next_80 : decode cX7_next 80 = .ok (.iand, 1) := by decide +kernel
theorem dX7_next_81 : decode cX7_next 81 = .ok (.iconst 1, 1) := by decide +kernel
theorem dX7_next_82 : decode cX7_next 82 = .ok (.if_icmp .ne 27, 3) := by decide +kernel
theorem dX7_next_85 : decode cX7_next 85 = .ok (.aload_n 0, 1) := by decide +kernel
theorem dX7_next_86 : decode cX7_next 86 = .ok (.getfield 65, 3) := by decide +kernel
theorem dX7_next_89 : decode cX7_next 89 = .ok (.iload 6, 2) := by decide +kernel
theorem dX7_next_91 : decode cX7_next 91 = .ok (.aload_n 0, 1) := by decide +kernel
theorem dX7_next_92 : decode cX7_next 92 = .ok (.getfield 43, 3) := by decide +kernel
theorem dX7_next_95 : decode cX7_next 95 = .ok (.getfield 260, 3) := by decide +kernel
theorem dX7_next_98 : decode cX7_next 98 = .ok (.iadd, 1) := by decide +kernel
theorem dX7_next_99 : decode cX7_next 99 = .ok (.invokevirtual 108, 3) := by decide +kernel
theorem dX7_next_102 : decode cX7_next 102 = .ok (.iload_n 2, 1) := by decide +kernel
theorem dX7_next_103 : decode cX7_next 103 = .ok (.if_icmp .ne 6, 3) := by decide +kernel
theorem dX7_next_106 : decode cX7_next 106 = .ok (.iinc 5 1, 3) := by decide +kernel
theorem dX7_next_109 : decode cX7_next 109 = .ok (.iinc 6 1, 3) := by decide +kernel
theorem dX7_next_112 : decode cX7_next 112 = .ok (.goto (-50), 3) := by decide +kernel
theorem dX7_next_115 : decode cX7_next 115 = .ok (.iload 5, 2) := by decide +kernel
theorem dX7_next_117 : decode cX7_next 117 = .ok (.iload 4, 2) := by decide +kernel
theorem dX7_next_119 : decode cX7_next 119 = .ok (.invokestatic 156, 3) := by decide +kernel
theorem dX7_next_122 : decode cX7_next 122 = .ok (.iload_n 3, 1) := by decide +kernel
theorem dX7_next_123 : decode cX7_next 123 = .ok (.invokestatic 196, 3) := by decide +kernel
theorem dX7_next_126 : decode cX7_next 126 = .ok (.ireturn, 1) := by decide +kernel
theorem dX7_cut_0 : decode cX7_cut 0 = .ok (.iload_n 1, 1) := by decide +kernel
theorem dX7_cut_1 : decode cX7_cut 1 = .ok (.iconst 1, 1) := by decide +kernel
theorem dX7_cut_2 : decode cX7_cut 2 = .ok (.if_icmp .lt 33, 3) := by decide +kernel
theorem dX7_cut_5 : decode cX7_cut 5 = .ok (.iload_n 1, 1) := by decide +kernel
theorem dX7_cut_6 : decode cX7_cut 6 = .ok (.bipush 30, 2) := by decide +kernel
theorem dX7_cut_8 : decode cX7_cut 8 = .ok (.if_icmp .gt 27, 3) := by decide +kernel
theorem dX7_cut_11 : decode cX7_cut 11 = .ok (.iload_n 2, 1) := by decide +kernel
theorem dX7_cut_12 : decode cX7_cut 12 = .ok (.iconst 1, 1) := by decide +kernel
theorem dX7_cut_13 : decode cX7_cut 13 = .ok (.if_icmp .lt 22, 3) := by decide +kernel
theorem dX7_cut_16 : decode cX7_cut 16 = .ok (.iload_n 2, 1) := by decide +kernel
theorem dX7_cut_17 : decode cX7_cut 17 = .ok (.bipush 6, 2) := by decide +kernel
theorem dX7_cut_19 : decode cX7_cut 19 = .ok (.if_icmp .gt 16, 3) := by decide +kernel
theorem dX7_cut_22 : decode cX7_cut 22 = .ok (.iload_n 3, 1) := by decide +kernel
theorem dX7_cut_23 : decode cX7_cut 23 = .ok (.ifCond .lt 12, 3) := by decide +kernel
theorem dX7_cut_26 : decode cX7_cut 26 = .ok (.iload_n 3, 1) := by decide +kernel
theorem dX7_cut_27 : decode cX7_cut 27 = .ok (.getstatic 207, 3) := by decide +kernel
theorem dX7_cut_30 : decode cX7_cut 30 = .ok (.iload_n 2, 1) := by decide +kernel
theorem dX7_cut_31 : decode cX7_cut 31 = .ok (.iaload, 1) := by decide +kernel
theorem dX7_cut_32 : decode cX7_cut 32 = .ok (.if_icmp .lt 6, 3) := by decide +kernel
theorem dX7_cut_35 : decode cX7_cut 35 = .ok (.bipush (-2), 2) := by decide +kernel
theorem dX7_cut_37 : decode cX7_cut 37 = .ok (.ireturn, 1) := by decide +kernel
theorem dX7_cut_38 : decode cX7_cut 38 = .ok (.iconst 0, 1) := by decide +kernel
theorem dX7_cut_39 : decode cX7_cut 39 = .ok (.istore 4, 2) := by decide +kernel
theorem dX7_cut_41 : decode cX7_cut 41 = .ok (.iconst 0, 1) := by decide +kernel
theorem dX7_cut_42 : decode cX7_cut 42 = .ok (.istore 5, 2) := by decide +kernel
theorem dX7_cut_44 : decode cX7_cut 44 = .ok (.iload 5, 2) := by decide +kernel
theorem dX7_cut_46 : decode cX7_cut 46 = .ok (.iload_n 2, 1) := by decide +kernel
theorem dX7_cut_47 : decode cX7_cut 47 = .ok (.if_icmp .ge 35, 3) := by decide +kernel
theorem dX7_cut_50 : decode cX7_cut 50 = .ok (.iload_n 3, 1) := by decide +kernel
theorem dX7_cut_51 : decode cX7_cut 51 = .ok (.iload_n 2, 1) := by decide +kernel
theorem dX7_cut_52 : decode cX7_cut 52 = .ok (.iload 5, 2) := by decide +kernel
theorem dX7_cut_54 : decode cX7_cut 54 = .ok (.invokestatic 213, 3) := by decide +kernel
theorem dX7_cut_57 : decode cX7_cut 57 = .ok (.istore 6, 2) := by decide +kernel
theorem dX7_cut_59 : decode cX7_cut 59 = .ok (.iload 6, 2) := by decide +kernel
theorem dX7_cut_61 : decode cX7_cut 61 = .ok (.ifCond .ne 6, 3) := by decide +kernel
theorem dX7_cut_64 : decode cX7_cut 64 = .ok (.bipush (-2), 2) := by decide +kernel
theorem dX7_cut_66 : decode cX7_cut 66 = .ok (.ireturn, 1) := by decide +kernel
theorem dX7_cut_67 : decode cX7_cut 67 = .ok (.iload 4, 2) := by decide +kernel
theorem dX7_cut_69 : decode cX7_cut 69 = .ok (.iload 6, 2) := by decide +kernel
theorem dX7_cut_71 : decode cX7_cut 71 = .ok (.invokestatic 229, 3) := by decide +kernel
theorem dX7_cut_74 : decode cX7_cut 74 = .ok (.istore 4, 2) := by decide +kernel
theorem dX7_cut_76 : decode cX7_cut 76 = .ok (.iinc 5 1, 3) := by decide +kernel
theorem dX7_cut_79 : decode cX7_cut 79 = .ok (.goto (-35), 3) := by decide +kernel
theorem dX7_cut_82 : decode cX7_cut 82 = .ok (.iload 4, 2) := by decide +kernel
theorem dX7_cut_84 : decode cX7_cut 84 = .ok (.iload_n 1, 1) := by decide +kernel
theorem dX7_cut_85 : decode cX7_cut 85 = .ok (.if_icmp .le 8, 3) := by decide +kernel
theorem dX7_cut_88 : decode cX7_cut 88 = .ok (.bipush (-9), 2) := by decide +kernel
theorem dX7_cut_90 : decode cX7_cut 90 = .ok (.goto 13, 3) := by decide +kernel
theorem dX7_cut_93 : decode cX7_cut 93 = .ok (.aload_n 0, 1) := by decide +kernel
theorem dX7_cut_94 : decode cX7_cut 94 = .ok (.getfield 50, 3) := by decide +kernel
theorem dX7_cut_97 : decode cX7_cut 97 = .ok (.iload_n 1, 1) := by decide +kernel
theorem dX7_cut_98 : decode cX7_cut 98 = .ok (.iload_n 2, 1) := by decide +kernel
theorem dX7_cut_99 : decode cX7_cut 99 = .ok (.iload_n 3, 1) := by decide +kernel
theorem dX7_cut_100 : decode cX7_cut 100 = .ok (.invokevirtual 261, 3) := by decide +kernel
theorem dX7_cut_103 : decode cX7_cut 103 = .ok (.ireturn, 1) := by decide +kernel
theorem dX7_draught_0 : decode cX7_draught 0 = .ok (.aload_n 0, 1) := by decide +kernel
theorem dX7_draught_1 : decode cX7_draught 1 = .ok (.getfield 65, 3) := by decide +kernel
theorem dX7_draught_4 : decode cX7_draught 4 = .ok (.iload_n 1, 1) := by decide +kernel
theorem dX7_draught_5 : decode cX7_draught 5 = .ok (.invokevirtual 111, 3) := by decide +kernel
theorem dX7_draught_8 : decode cX7_draught 8 = .ok (.ifCond .ne 5, 3) := by decide +kernel
theorem dX7_draught_11 : decode cX7_draught 11 = .ok (.iconst (-1), 1) := by decide +kernel
theorem dX7_draught_12 : decode cX7_draught 12 = .ok (.ireturn, 1) := by decide +kernel
theorem dX7_draught_13 : decode cX7_draught 13 = .ok (.iload_n 2, 1) := by decide +kernel
theorem dX7_draught_14 : decode cX7_draught 14 = .ok (.ifCond .lt 18, 3) := by decide +kernel
theorem dX7_draught_17 : decode cX7_draught 17 = .ok (.iload_n 2, 1) := by decide +kernel
theorem dX7_draught_18 : decode cX7_draught 18 = .ok (.bipush 10, 2) := by decide +kernel
theorem dX7_draught_20 : decode cX7_draught 20 = .ok (.if_icmp .gt 12, 3) := by decide +kernel
theorem dX7_draught_23 : decode cX7_draught 23 = .ok (.iload_n 3, 1) := by decide +kernel
theorem dX7_draught_24 : decode cX7_draught 24 = .ok (.ifCond .lt 8, 3) := by decide +kernel
theorem dX7_draught_27 : decode cX7_draught 27 = .ok (.iload_n 3, 1) := by decide +kernel
theorem dX7_draught_28 : decode cX7_draught 28 = .ok (.iconst 4, 1) := by decide +kernel
theorem dX7_draught_29 : decode cX7_draught 29 = .ok (.if_icmp .lt 6, 3) := by decide +kernel
theorem dX7_draught_32 : decode cX7_draught 32 = .ok (.bipush (-2), 2) := by decide +kernel
theorem dX7_draught_34 : decode cX7_draught 34 = .ok (.ireturn, 1) := by decide +kernel
theorem dX7_draught_35 : decode cX7_draught 35 = .ok (.aload_n 0, 1) := by decide +kernel
theorem dX7_draught_36 : decode cX7_draught 36 = .ok (.getfield 19, 3) := by decide +kernel
theorem dX7_draught_39 : decode cX7_draught 39 = .ok (.getfield 124, 3) := by decide +kernel
theorem dX7_draught_42 : decode cX7_draught 42 = .ok (.iload_n 1, 1) := by decide +kernel
theorem dX7_draught_43 : decode cX7_draught 43 = .ok (.iaload, 1) := by decide +kernel
theorem dX7_draught_44 : decode cX7_draught 44 = .ok (.ifCond .eq 6, 3) := by decide +kernel
theorem dX7_draught_47 : decode cX7_draught 47 = .ok (.bipush (-3), 2) := by decide +kernel
theorem dX7_draught_49 : decode cX7_draught 49 = .ok (.ireturn, 1) := by decide +kernel
theorem dX7_draught_50 : decode cX7_draught 50 = .ok (.iconst 0, 1) := by decide +kernel
theorem dX7_draught_51 : decode cX7_draught 51 = .ok (.istore 5, 2) := by decide +kernel
theorem dX7_draught_53 : decode cX7_draught 53 = .ok (.getstatic 207, 3) := by decide +kernel
theorem dX7_draught_56 : decode cX7_draught 56 = .ok (.bipush 6, 2) := by decide +kernel
theorem dX7_draught_58 : decode cX7_draught 58 = .ok (.iaload, 1) := by decide +kernel
theorem dX7_draught_59 : decode cX7_draught 59 = .ok (.istore 6, 2) := by decide +kernel
theorem dX7_draught_61 : decode cX7_draught 61 = .ok (.iconst 0, 1) := by decide +kernel
theorem dX7_draught_62 : decode cX7_draught 62 = .ok (.istore 7, 2) := by decide +kernel
theorem dX7_draught_64 : decode cX7_draught 64 = .ok (.iload 7, 2) := by decide +kernel
theorem dX7_draught_66 : decode cX7_draught 66 = .ok (.bipush 6, 2) := by decide +kernel
theorem dX7_draught_68 : decode cX7_draught 68 = .ok (.if_icmp .ge 48, 3) := by decide +kernel
theorem dX7_draught_71 : decode cX7_draught 71 = .ok (.iload 6, 2) := by decide +kernel
theorem dX7_draught_73 : decode cX7_draught 73 = .ok (.bipush 10, 2) := by decide +kernel
theorem dX7_draught_75 : decode cX7_draught 75 = .ok (.idiv, 1) := by decide +kernel
theorem dX7_draught_76 : decode cX7_draught 76 = .ok (.bipush 10, 2) := by decide +kernel
theorem dX7_draught_78 : decode cX7_draught 78 = .ok (.iload_n 2, 1) := by decide +kernel
theorem dX7_draught_79 : decode cX7_draught 79 = .ok (.isub, 1) := by decide +kernel
theorem dX7_draught_80 : decode cX7_draught 80 = .ok (.imul, 1) := by decide +kernel
theorem dX7_draught_81 : decode cX7_draught 81 = .ok (.istore 6, 2) := by decide +kernel
theorem dX7_draught_83 : decode cX7_draught 83 = .ok (.aload_n 0, 1) := by decide +kernel
theorem dX7_draught_84 : decode cX7_draught 84 = .ok (.getfield 19, 3) := by decide +kernel
theorem dX7_draught_87 : decode cX7_draught 87 = .ok (.aload_n 0, 1) := by decide +kernel
theorem dX7_draught_88 : decode cX7_draught 88 = .ok (.getfield 65, 3) := by decide +kernel
theorem dX7_draught_91 : decode cX7_draught 91 = .ok (.iload_n 1, 1) := by decide +kernel
theorem dX7_draught_92 : decode cX7_draught 92 = .ok (.iload 7, 2) := by decide +kernel
theorem dX7_draught_94 : decode cX7_draught 94 = .ok (.invokevirtual 234, 3) := by decide +kernel
theorem dX7_draught_97 : decode cX7_draught 97 = .ok (.iconst 1, 1) := by decide +kernel
theorem dX7_draught_98 : decode cX7_draught 98 = .ok (.iload_n 3, 1) := by decide +kernel
theorem dX7_draught_99 : decode cX7_draught 99 = .ok (.ishl, 1) := by decide +kernel
theorem dX7_draught_100 : decode cX7_draught 100 = .ok (.if_icmp .ne 10, 3) := by decide +kernel
theorem dX7_draught_103 : decode cX7_draught 103 = .ok (.iload 5, 2) := by decide +kernel
theorem dX7_draught_105 : decode cX7_draught 105 = .ok (.iload 6, 2) := by decide +kernel
theorem dX7_draught_107 : decode cX7_draught 107 = .ok (.iadd, 1) := by decide +kernel
theorem dX7_draught_108 : decode cX7_draught 108 = .ok (.istore 5, 2) := by decide +kernel
theorem dX7_draught_110 : decode cX7_draught 110 = .ok (.iinc 7 1, 3) := by decide +kernel
theorem dX7_draught_113 : decode cX7_draught 113 = .ok (.goto (-49), 3) := by decide +kernel
theorem dX7_draught_116 : decode cX7_draught 116 = .ok (.iload 5, 2) := by decide +kernel
theorem dX7_draught_118 : decode cX7_draught 118 = .ok (.getstatic 207, 3) := by decide +kernel
theorem dX7_draught_121 : decode cX7_draught 121 = .ok (.bipush 6, 2) := by decide +kernel
theorem dX7_draught_123 : decode cX7_draught 123 = .ok (.iaload, 1) := by decide +kernel
theorem dX7_draught_124 : decode cX7_draught 124 = .ok (.iload 4, 2) := by decide +kernel
theorem dX7_draught_126 : decode cX7_draught 126 = .ok (.invokestatic 196, 3) := by decide +kernel
theorem dX7_draught_129 : decode cX7_draught 129 = .ok (.ireturn, 1) := by decide +kernel
theorem dX7_seed_0 : decode cX7_seed 0 = .ok (.aload_n 0, 1) := by decide +kernel
theorem dX7_seed_1 : decode cX7_seed 1 = .ok (.getfield 72, 3) := by decide +kernel
theorem dX7_seed_4 : decode cX7_seed 4 = .ok (.lstore_n 3, 1) := by decide +kernel
theorem dX7_seed_5 : decode cX7_seed 5 = .ok (.aload_n 0, 1) := by decide +kernel
theorem dX7_seed_6 : decode cX7_seed 6 = .ok (.lload_n 1, 1) := by decide +kernel
theorem dX7_seed_7 : decode cX7_seed 7 = .ok (.putfield 72, 3) := by decide +kernel
theorem dX7_seed_10 : decode cX7_seed 10 = .ok (.lload_n 3, 1) := by decide +kernel
theorem dX7_seed_11 : decode cX7_seed 11 = .ok (.lreturn, 1) := by decide +kernel
theorem dX7_night_0 : decode cX7_night 0 = .ok (.iload_n 1, 1) := by decide +kernel
theorem dX7_night_1 : decode cX7_night 1 = .ok (.iconst 1, 1) := by decide +kernel
theorem dX7_night_2 : decode cX7_night 2 = .ok (.if_icmp .lt 9, 3) := by decide +kernel
theorem dX7_night_5 : decode cX7_night 5 = .ok (.iload_n 1, 1) := by decide +kernel
theorem dX7_night_6 : decode cX7_night 6 = .ok (.bipush 20, 2) := by decide +kernel
theorem dX7_night_8 : decode cX7_night 8 = .ok (.if_icmp .le 6, 3) := by decide +kernel
theorem dX7_night_11 : decode cX7_night 11 = .ok (.bipush (-2), 2) := by decide +kernel
theorem dX7_night_13 : decode cX7_night 13 = .ok (.ireturn, 1) := by decide +kernel
theorem dX7_night_14 : decode cX7_night 14 = .ok (.aload_n 0, 1) := by decide +kernel
theorem dX7_night_15 : decode cX7_night 15 = .ok (.getfield 23, 3) := by decide +kernel
theorem dX7_night_18 : decode cX7_night 18 = .ok (.aload_n 0, 1) := by decide +kernel
theorem dX7_night_19 : decode cX7_night 19 = .ok (.getfield 19, 3) := by decide +kernel
theorem dX7_night_22 : decode cX7_night 22 = .ok (.invokevirtual 210, 3) := by decide +kernel
theorem dX7_night_25 : decode cX7_night 25 = .ok (.iconst 0, 1) := by decide +kernel
theorem dX7_night_26 : decode cX7_night 26 = .ok (.istore_n 2, 1) := by decide +kernel
theorem dX7_night_27 : decode cX7_night 27 = .ok (.iload_n 2, 1) := by decide +kernel
theorem dX7_night_28 : decode cX7_night 28 = .ok (.iload_n 1, 1) := by decide +kernel
theorem dX7_night_29 : decode cX7_night 29 = .ok (.if_icmp .ge 73, 3) := by decide +kernel
theorem dX7_night_32 : decode cX7_night 32 = .ok (.aload_n 0, 1) := by decide +kernel
theorem dX7_night_33 : decode cX7_night 33 = .ok (.getfield 23, 3) := by decide +kernel
theorem dX7_night_36 : decode cX7_night 36 = .ok (.getfield 161, 3) := by decide +kernel
theorem dX7_night_39 : decode cX7_night 39 = .ok (.bipush 20, 2) := by decide +kernel
theorem dX7_night_41 : decode cX7_night 41 = .ok (.if_icmp .ge 61, 3) := by decide +kernel
theorem dX7_night_44 : decode cX7_night 44 = .ok (.aload_n 0, 1) := by decide +kernel
theorem dX7_night_45 : decode cX7_night 45 = .ok (.aload_n 0, 1) := by decide +kernel
theorem dX7_night_46 : decode cX7_night 46 = .ok (.getfield 72, 3) := by decide +kernel
theorem dX7_night_49 : decode cX7_night 49 = .ok (.ldc2_w 264, 3) := by decide +kernel
theorem dX7_night_52 : decode cX7_night 52 = .ok (.lmul, 1) := by decide +kernel
theorem dX7_night_53 : decode cX7_night 53 = .ok (.ldc2_w 266, 3) := by decide +kernel
theorem dX7_night_56 : decode cX7_night 56 = .ok (.ladd, 1) := by decide +kernel
theorem dX7_night_57 : decode cX7_night 57 = .ok (.putfield 72, 3) := by decide +kernel
theorem dX7_night_60 : decode cX7_night 60 = .ok (.aload_n 0, 1) := by decide +kernel
theorem dX7_night_61 : decode cX7_night 61 = .ok (.getfield 23, 3) := by decide +kernel
theorem dX7_night_64 : decode cX7_night 64 = .ok (.aload_n 0, 1) := by decide +kernel
theorem dX7_night_65 : decode cX7_night 65 = .ok (.getfield 65, 3) := by decide +kernel
theorem dX7_night_68 : decode cX7_night 68 = .ok (.aload_n 0, 1) := by decide +kernel
theorem dX7_night_69 : decode cX7_night 69 = .ok (.getfield 72, 3) := by decide +kernel
theorem dX7_night_72 : decode cX7_night 72 = .ok (.bipush 33, 2) := by decide +kernel
theorem dX7_night_74 : decode cX7_night 74 = .ok (.lushr, 1) := by decide +kernel
theorem dX7_night_75 : decode cX7_night 75 = .ok (.ldc2_w 268, 3) := by decide +kernel
theorem dX7_night_78 : decode cX7_night 78 = .ok (.lrem, 1) := by decide +kernel
theorem dX7_night_79 : decode cX7_night 79 = .ok (.l2i, 1) := by decide +kernel
theorem dX7_night_80 : decode cX7_night 80 = .ok (.invokevirtual 220, 3) := by decide +kernel
theorem dX7_night_83 : decode cX7_night 83 = .ok (.pop, 1) := by decide +kernel
theorem dX7_night_84 : decode cX7_night 84 = .ok (.aload_n 0, 1) := by decide +kernel
theorem dX7_night_85 : decode cX7_night 85 = .ok (.getfield 23, 3) := by decide +kernel
theorem dX7_night_88 : decode cX7_night 88 = .ok (.aload_n 0, 1) := by decide +kernel
theorem dX7_night_89 : decode cX7_night 89 = .ok (.getfield 65, 3) := by decide +kernel
theorem dX7_night_92 : decode cX7_night 92 = .ok (.invokevirtual 164, 3) := by decide +kernel
theorem dX7_night_95 : decode cX7_night 95 = .ok (.pop, 1) := by decide +kernel
theorem dX7_night_96 : decode cX7_night 96 = .ok (.iinc 2 1, 3) := by decide +kernel
theorem dX7_night_99 : decode cX7_night 99 = .ok (.goto (-72), 3) := by decide +kernel
theorem dX7_night_102 : decode cX7_night 102 = .ok (.iconst 0, 1) := by decide +kernel
theorem dX7_night_103 : decode cX7_night 103 = .ok (.istore_n 2, 1) := by decide +kernel
theorem dX7_night_104 : decode cX7_night 104 = .ok (.iconst 0, 1) := by decide +kernel
theorem dX7_night_105 : decode cX7_night 105 = .ok (.istore_n 3, 1) := by decide +kernel
theorem dX7_night_106 : decode cX7_night 106 = .ok (.iload_n 3, 1) := by decide +kernel
theorem dX7_night_107 : decode cX7_night 107 = .ok (.aload_n 0, 1) := by decide +kernel
theorem dX7_night_108 : decode cX7_night 108 = .ok (.getfield 65, 3) := by decide +kernel
theorem dX7_night_111 : decode cX7_night 111 = .ok (.getfield 102, 3) := by decide +kernel
theorem dX7_night_114 : decode cX7_night 114 = .ok (.if_icmp .ge 21, 3) := by decide +kernel
theorem dX7_night_117 : decode cX7_night 117 = .ok (.iload_n 2, 1) := by decide +kernel
theorem dX7_night_118 : decode cX7_night 118 = .ok (.aload_n 0, 1) := by decide +kernel
theorem dX7_night_119 : decode cX7_night 119 = .ok (.getfield 23, 3) := by decide +kernel
theorem dX7_night_122 : decode cX7_night 122 = .ok (.getfield 142, 3) := by decide +kernel
theorem dX7_night_125 : decode cX7_night 125 = .ok (.iload_n 3, 1) := by decide +kernel
theorem dX7_night_126 : decode cX7_night 126 = .ok (.iaload, 1) := by decide +kernel
theorem dX7_night_127 : decode cX7_night 127 = .ok (.iadd, 1) := by decide +kernel
theorem dX7_night_128 : decode cX7_night 128 = .ok (.istore_n 2, 1) := by decide +kernel
theorem dX7_night_129 : decode cX7_night 129 = .ok (.iinc 3 1, 3) := by decide +kernel
theorem dX7_night_132 : decode cX7_night 132 = .ok (.goto (-26), 3) := by decide +kernel
theorem dX7_night_135 : decode cX7_night 135 = .ok (.iload_n 2, 1) := by decide +kernel
theorem dX7_night_136 : decode cX7_night 136 = .ok (.ireturn, 1) := by decide +kernel
theorem dX7_keep_0 : decode cX7_keep 0 = .ok (.iload_n 1, 1) := by decide +kernel
theorem dX7_keep_1 : decode cX7_keep 1 = .ok (.ifCond .lt 8, 3) := by decide +kernel
theorem dX7_keep_4 : decode cX7_keep 4 = .ok (.iload_n 1, 1) := by decide +kernel
theorem dX7_keep_5 : decode cX7_keep 5 = .ok (.iconst 2, 1) := by decide +kernel
theorem dX7_keep_6 : decode cX7_keep 6 = .ok (.if_icmp .lt 5, 3) := by decide +kernel
theorem dX7_keep_9 : decode cX7_keep 9 = .ok (.iconst (-1), 1) := by decide +kernel
theorem dX7_keep_10 : decode cX7_keep 10 = .ok (.ireturn, 1) := by decide +kernel
theorem dX7_keep_11 : decode cX7_keep 11 = .ok (.aload_n 0, 1) := by decide +kernel
theorem dX7_keep_12 : decode cX7_keep 12 = .ok (.getfield 19, 3) := by decide +kernel
theorem dX7_keep_15 : decode cX7_keep 15 = .ok (.aload_n 0, 1) := by decide +kernel
theorem dX7_keep_16 : decode cX7_keep 16 = .ok (.getfield 54, 3) := by decide +kernel
theorem dX7_keep_19 : decode cX7_keep 19 = .ok (.iload_n 1, 1) := by decide +kernel
theorem dX7_keep_20 : decode cX7_keep 20 = .ok (.bipush 18, 2) := by decide +kernel
theorem dX7_keep_22 : decode cX7_keep 22 = .ok (.imul, 1) := by decide +kernel
theorem dX7_keep_23 : decode cX7_keep 23 = .ok (.invokevirtual 270, 3) := by decide +kernel
theorem dX7_keep_26 : decode cX7_keep 26 = .ok (.aload_n 0, 1) := by decide +kernel
theorem dX7_keep_27 : decode cX7_keep 27 = .ok (.getfield 58, 3) := by decide +kernel
theorem dX7_keep_30 : decode cX7_keep 30 = .ok (.iload_n 1, 1) := by decide +kernel
theorem dX7_keep_31 : decode cX7_keep 31 = .ok (.iconst 1, 1) := by decide +kernel
theorem dX7_keep_32 : decode cX7_keep 32 = .ok (.bastore, 1) := by decide +kernel
theorem dX7_keep_33 : decode cX7_keep 33 = .ok (.aload_n 0, 1) := by decide +kernel
theorem dX7_keep_34 : decode cX7_keep 34 = .ok (.getfield 19, 3) := by decide +kernel
theorem dX7_keep_37 : decode cX7_keep 37 = .ok (.getfield 161, 3) := by decide +kernel
theorem dX7_keep_40 : decode cX7_keep 40 = .ok (.ireturn, 1) := by decide +kernel
theorem dX7_again_0 : decode cX7_again 0 = .ok (.iload_n 1, 1) := by decide +kernel
theorem dX7_again_1 : decode cX7_again 1 = .ok (.ifCond .lt 8, 3) := by decide +kernel
theorem dX7_again_4 : decode cX7_again 4 = .ok (.iload_n 1, 1) := by decide +kernel
theorem dX7_again_5 : decode cX7_again 5 = .ok (.iconst 2, 1) := by decide +kernel
theorem dX7_again_6 : decode cX7_again 6 = .ok (.if_icmp .lt 5, 3) := by decide +kernel
theorem dX7_again_9 : decode cX7_again 9 = .ok (.iconst (-1), 1) := by decide +kernel
theorem dX7_again_10 : decode cX7_again 10 = .ok (.ireturn, 1) := by decide +kernel
theorem dX7_again_11 : decode cX7_again 11 = .ok (.aload_n 0, 1) := by decide +kernel
theorem dX7_again_12 : decode cX7_again 12 = .ok (.getfield 58, 3) := by decide +kernel
theorem dX7_again_15 : decode cX7_again 15 = .ok (.iload_n 1, 1) := by decide +kernel
theorem dX7_again_16 : decode cX7_again 16 = .ok (.baload, 1) := by decide +kernel
theorem dX7_again_17 : decode cX7_again 17 = .ok (.ifCond .ne 6, 3) := by decide +kernel
theorem dX7_again_20 : decode cX7_again 20 = .ok (.bipush (-3), 2) := by decide +kernel
theorem dX7_again_22 : decode cX7_again 22 = .ok (.ireturn, 1) := by decide +kernel
theorem dX7_again_23 : decode cX7_again 23 = .ok (.aload_n 0, 1) := by decide +kernel
theorem dX7_again_24 : decode cX7_again 24 = .ok (.getfield 19, 3) := by decide +kernel
theorem dX7_again_27 : decode cX7_again 27 = .ok (.aload_n 0, 1) := by decide +kernel
theorem dX7_again_28 : decode cX7_again 28 = .ok (.getfield 54, 3) := by decide +kernel
theorem dX7_again_31 : decode cX7_again 31 = .ok (.iload_n 1, 1) := by decide +kernel
theorem dX7_again_32 : decode cX7_again 32 = .ok (.bipush 18, 2) := by decide +kernel
theorem dX7_again_34 : decode cX7_again 34 = .ok (.imul, 1) := by decide +kernel
theorem dX7_again_35 : decode cX7_again 35 = .ok (.invokevirtual 274, 3) := by decide +kernel
theorem dX7_again_38 : decode cX7_again 38 = .ok (.aload_n 0, 1) := by decide +kernel
theorem dX7_again_39 : decode cX7_again 39 = .ok (.getfield 29, 3) := by decide +kernel
theorem dX7_again_42 : decode cX7_again 42 = .ok (.invokevirtual 92, 3) := by decide +kernel
theorem dX7_again_45 : decode cX7_again 45 = .ok (.aload_n 0, 1) := by decide +kernel
theorem dX7_again_46 : decode cX7_again 46 = .ok (.getfield 36, 3) := by decide +kernel
theorem dX7_again_49 : decode cX7_again 49 = .ok (.iconst 0, 1) := by decide +kernel
theorem dX7_again_50 : decode cX7_again 50 = .ok (.putfield 94, 3) := by decide +kernel
theorem dX7_again_53 : decode cX7_again 53 = .ok (.aload_n 0, 1) := by decide +kernel
theorem dX7_again_54 : decode cX7_again 54 = .ok (.getfield 19, 3) := by decide +kernel
theorem dX7_again_57 : decode cX7_again 57 = .ok (.getfield 161, 3) := by decide +kernel
theorem dX7_again_60 : decode cX7_again 60 = .ok (.ireturn, 1) := by decide +kernel
theorem dX7_count_0 : decode cX7_count 0 = .ok (.iload_n 1, 1) := by decide +kernel
theorem dX7_count_1 : decode cX7_count 1 = .ok (.tableswitch 144 0 9 #[55, 63, 71, 79, 87, 95, 108, 120, 128, 136], 55) := by decide +kernel
theorem dX7_count_56 : decode cX7_count 56 = .ok (.aload_n 0, 1) := by decide +kernel
theorem dX7_count_57 : decode cX7_count 57 = .ok (.getfield 10, 3) := by decide +kernel
theorem dX7_count_60 : decode cX7_count 60 = .ok (.getfield 277, 3) := by decide +kernel
theorem dX7_count_63 : decode cX7_count 63 = .ok (.ireturn, 1) := by decide +kernel
theorem dX7_count_64 : decode cX7_count 64 = .ok (.aload_n 0, 1) := by decide +kernel
theorem dX7_count_65 : decode cX7_count 65 = .ok (.getfield 65, 3) := by decide +kernel
theorem dX7_count_68 : decode cX7_count 68 = .ok (.getfield 105, 3) := by decide +kernel
theorem dX7_count_71 : decode cX7_count 71 = .ok (.ireturn, 1) := by decide +kernel
theorem dX7_count_72 : decode cX7_count 72 = .ok (.aload_n 0, 1) := by decide +kernel
theorem dX7_count_73 : decode cX7_count 73 = .ok (.getfield 65, 3) := by decide +kernel
theorem dX7_count_76 : decode cX7_count 76 = .ok (.getfield 98, 3) := by decide +kernel
theorem dX7_count_79 : decode cX7_count 79 = .ok (.ireturn, 1) := by decide +kernel
theorem dX7_count_80 : decode cX7_count 80 = .ok (.aload_n 0, 1) := by decide +kernel
theorem dX7_count_81 : decode cX7_count 81 = .ok (.getfield 65, 3) := by decide +kernel
theorem dX7_count_84 : decode cX7_count 84 = .ok (.getfield 102, 3) := by decide +kernel
theorem dX7_count_87 : decode cX7_count 87 = .ok (.ireturn, 1) := by decide +kernel
theorem dX7_count_88 : decode cX7_count 88 = .ok (.aload_n 0, 1) := by decide +kernel
theorem dX7_count_89 : decode cX7_count 89 = .ok (.getfield 19, 3) := by decide +kernel
theorem dX7_count_92 : decode cX7_count 92 = .ok (.getfield 161, 3) := by decide +kernel
theorem dX7_count_95 : decode cX7_count 95 = .ok (.ireturn, 1) := by decide +kernel
theorem dX7_count_96 : decode cX7_count 96 = .ok (.aload_n 0, 1) := by decide +kernel
theorem dX7_count_97 : decode cX7_count 97 = .ok (.getfield 19, 3) := by decide +kernel
theorem dX7_count_100 : decode cX7_count 100 = .ok (.aload_n 0, 1) := by decide +kernel
theorem dX7_count_101 : decode cX7_count 101 = .ok (.getfield 65, 3) := by decide +kernel
theorem dX7_count_104 : decode cX7_count 104 = .ok (.iconst 1, 1) := by decide +kernel
theorem dX7_count_105 : decode cX7_count 105 = .ok (.invokevirtual 152, 3) := by decide +kernel
theorem dX7_count_108 : decode cX7_count 108 = .ok (.ireturn, 1) := by decide +kernel
theorem dX7_count_109 : decode cX7_count 109 = .ok (.aload_n 0, 1) := by decide +kernel
theorem dX7_count_110 : decode cX7_count 110 = .ok (.getfield 19, 3) := by decide +kernel
theorem dX7_count_113 : decode cX7_count 113 = .ok (.aload_n 0, 1) := by decide +kernel
theorem dX7_count_114 : decode cX7_count 114 = .ok (.getfield 65, 3) := by decide +kernel
theorem dX7_count_117 : decode cX7_count 117 = .ok (.invokevirtual 280, 3) := by decide +kernel
theorem dX7_count_120 : decode cX7_count 120 = .ok (.ireturn, 1) := by decide +kernel
theorem dX7_count_121 : decode cX7_count 121 = .ok (.aload_n 0, 1) := by decide +kernel
theorem dX7_count_122 : decode cX7_count 122 = .ok (.getfield 19, 3) := by decide +kernel
theorem dX7_count_125 : decode cX7_count 125 = .ok (.getfield 283, 3) := by decide +kernel
theorem dX7_count_128 : decode cX7_count 128 = .ok (.ireturn, 1) := by decide +kernel
theorem dX7_count_129 : decode cX7_count 129 = .ok (.aload_n 0, 1) := by decide +kernel
theorem dX7_count_130 : decode cX7_count 130 = .ok (.getfield 29, 3) := by decide +kernel
theorem dX7_count_133 : decode cX7_count 133 = .ok (.getfield 167, 3) := by decide +kernel
theorem dX7_count_136 : decode cX7_count 136 = .ok (.ireturn, 1) := by decide +kernel
theorem dX7_count_137 : decode cX7_count 137 = .ok (.aload_n 0, 1) := by decide +kernel
theorem dX7_count_138 : decode cX7_count 138 = .ok (.getfield 43, 3) := by decide +kernel
theorem dX7_count_141 : decode cX7_count 141 = .ok (.getfield 260, 3) := by decide +kernel
theorem dX7_count_144 : decode cX7_count 144 = .ok (.ireturn, 1) := by decide +kernel
theorem dX7_count_145 : decode cX7_count 145 = .ok (.bipush (-2), 2) := by decide +kernel
theorem dX7_count_147 : decode cX7_count 147 = .ok (.ireturn, 1) := by decide +kernel
theorem dX7_figure_0 : decode cX7_figure 0 = .ok (.iload_n 1, 1) := by decide +kernel
theorem dX7_figure_1 : decode cX7_figure 1 = .ok (.iconst 1, 1) := by decide +kernel
theorem dX7_figure_2 : decode cX7_figure 2 = .ok (.isub, 1) := by decide +kernel
theorem dX7_figure_3 : decode cX7_figure 3 = .ok (.iload_n 2, 1) := by decide +kernel
theorem dX7_figure_4 : decode cX7_figure 4 = .ok (.isub, 1) := by decide +kernel
theorem dX7_figure_5 : decode cX7_figure 5 = .ok (.istore_n 3, 1) := by decide +kernel
theorem dX7_figure_6 : decode cX7_figure 6 = .ok (.iload_n 3, 1) := by decide +kernel
theorem dX7_figure_7 : decode cX7_figure 7 = .ok (.ifCond .lt 11, 3) := by decide +kernel
theorem dX7_figure_10 : decode cX7_figure 10 = .ok (.iload_n 3, 1) := by decide +kernel
theorem dX7_figure_11 : decode cX7_figure 11 = .ok (.getstatic 207, 3) := by decide +kernel
theorem dX7_figure_14 : decode cX7_figure 14 = .ok (.arraylength, 1) := by decide +kernel
theorem dX7_figure_15 : decode cX7_figure 15 = .ok (.if_icmp .lt 7, 3) := by decide +kernel
theorem dX7_figure_18 : decode cX7_figure 18 = .ok (.iconst 0, 1) := by decide +kernel
theorem dX7_figure_19 : decode cX7_figure 19 = .ok (.goto 13, 3) := by decide +kernel
theorem dX7_figure_22 : decode cX7_figure 22 = .ok (.iload_n 0, 1) := by decide +kernel
theorem dX7_figure_23 : decode cX7_figure 23 = .ok (.getstatic 207, 3) := by decide +kernel
theorem dX7_figure_26 : decode cX7_figure 26 = .ok (.iload_n 3, 1) := by decide +kernel
theorem dX7_figure_27 : decode cX7_figure 27 = .ok (.iaload, 1) := by decide +kernel
theorem dX7_figure_28 : decode cX7_figure 28 = .ok (.idiv, 1) := by decide +kernel
theorem dX7_figure_29 : decode cX7_figure 29 = .ok (.bipush 10, 2) := by decide +kernel
theorem dX7_figure_31 : decode cX7_figure 31 = .ok (.irem, 1) := by decide +kernel
theorem dX7_figure_32 : decode cX7_figure 32 = .ok (.ireturn, 1) := by decide +kernel
theorem dX7_fraction_0 : decode cX7_fraction 0 = .ok (.iload_n 1, 1) := by decide +kernel
theorem dX7_fraction_1 : decode cX7_fraction 1 = .ok (.istore_n 3, 1) := by decide +kernel
theorem dX7_fraction_2 : decode cX7_fraction 2 = .ok (.iload_n 0, 1) := by decide +kernel
theorem dX7_fraction_3 : decode cX7_fraction 3 = .ok (.istore 4, 2) := by decide +kernel
theorem dX7_fraction_5 : decode cX7_fraction 5 = .ok (.iconst 0, 1) := by decide +kernel
theorem dX7_fraction_6 : decode cX7_fraction 6 = .ok (.istore 5, 2) := by decide +kernel
theorem dX7_fraction_8 : decode cX7_fraction 8 = .ok (.iload 5, 2) := by decide +kernel
theorem dX7_fraction_10 : decode cX7_fraction 10 = .ok (.bipush 64, 2) := by decide +kernel
theorem dX7_fraction_12 : decode cX7_fraction 12 = .ok (.if_icmp .ge 27, 3) := by decide +kernel
theorem dX7_fraction_15 : decode cX7_fraction 15 = .ok (.iload 4, 2) := by decide +kernel
theorem dX7_fraction_17 : decode cX7_fraction 17 = .ok (.ifCond .eq 22, 3) := by decide +kernel
theorem dX7_fraction_20 : decode cX7_fraction 20 = .ok (.iload_n 3, 1) := by decide +kernel
theorem dX7_fraction_21 : decode cX7_fraction 21 = .ok (.iload 4, 2) := by decide +kernel
theorem dX7_fraction_23 : decode cX7_fraction 23 = .ok (.irem, 1) := by decide +kernel
theorem dX7_fraction_24 : decode cX7_fraction 24 = .ok (.istore 6, 2) := by decide +kernel
theorem dX7_fraction_26 : decode cX7_fraction 26 = .ok (.iload 4, 2) := by decide +kernel
theorem dX7_fraction_28 : decode cX7_fraction 28 = .ok (.istore_n 3, 1) := by decide +kernel
theorem dX7_fraction_29 : decode cX7_fraction 29 = .ok (.iload 6, 2) := by decide +kernel
theorem dX7_fraction_31 : decode cX7_fraction 31 = .ok (.istore 4, 2) := by decide +kernel
theorem dX7_fraction_33 : decode cX7_fraction 33 = .ok (.iinc 5 1, 3) := by decide +kernel
theorem dX7_fraction_36 : decode cX7_fraction 36 = .ok (.goto (-28), 3) := by decide +kernel
theorem dX7_fraction_39 : decode cX7_fraction 39 = .ok (.iload_n 3, 1) := by decide +kernel
theorem dX7_fraction_40 : decode cX7_fraction 40 = .ok (.ifCond .ne 5, 3) := by decide +kernel
theorem dX7_fraction_43 : decode cX7_fraction 43 = .ok (.iconst 0, 1) := by decide +kernel
theorem dX7_fraction_44 : decode cX7_fraction 44 = .ok (.ireturn, 1) := by decide +kernel
theorem dX7_fraction_45 : decode cX7_fraction 45 = .ok (.iload_n 2, 1) := by decide +kernel
theorem dX7_fraction_46 : decode cX7_fraction 46 = .ok (.ifCond .eq 9, 3) := by decide +kernel
theorem dX7_fraction_49 : decode cX7_fraction 49 = .ok (.iload_n 0, 1) := by decide +kernel
theorem dX7_fraction_50 : decode cX7_fraction 50 = .ok (.iload_n 3, 1) := by decide +kernel
theorem dX7_fraction_51 : decode cX7_fraction 51 = .ok (.idiv, 1) := by decide +kernel
theorem dX7_fraction_52 : decode cX7_fraction 52 = .ok (.goto 6, 3) := by decide +kernel
theorem dX7_fraction_55 : decode cX7_fraction 55 = .ok (.iload_n 1, 1) := by decide +kernel
theorem dX7_fraction_56 : decode cX7_fraction 56 = .ok (.iload_n 3, 1) := by decide +kernel
theorem dX7_fraction_57 : decode cX7_fraction 57 = .ok (.idiv, 1) := by decide +kernel
theorem dX7_fraction_58 : decode cX7_fraction 58 = .ok (.ireturn, 1) := by decide +kernel
theorem dL_law_0 : decode cL_law 0 = .ok (.new 7, 3) := by decide +kernel
theorem dL_law_3 : decode cL_law 3 = .ok (.dup, 1) := by decide +kernel
theorem dL_law_4 : decode cL_law 4 = .ok (.invokespecial 9, 3) := by decide +kernel
theorem dL_law_7 : decode cL_law 7 = .ok (.astore_n 1, 1) := by decide +kernel
theorem dL_law_8 : decode cL_law 8 = .ok (.new 10, 3) := by decide +kernel
theorem dL_law_11 : decode cL_law 11 = .ok (.dup, 1) := by decide +kernel
theorem dL_law_12 : decode cL_law 12 = .ok (.invokespecial 12, 3) := by decide +kernel
theorem dL_law_15 : decode cL_law 15 = .ok (.astore_n 2, 1) := by decide +kernel
theorem dL_law_16 : decode cL_law 16 = .ok (.iconst 0, 1) := by decide +kernel
theorem dL_law_17 : decode cL_law 17 = .ok (.istore_n 3, 1) := by decide +kernel
theorem dL_law_18 : decode cL_law 18 = .ok (.iload_n 3, 1) := by decide +kernel
theorem dL_law_19 : decode cL_law 19 = .ok (.aload_n 0, 1) := by decide +kernel
theorem dL_law_20 : decode cL_law 20 = .ok (.arraylength, 1) := by decide +kernel
theorem dL_law_21 : decode cL_law 21 = .ok (.iconst 5, 1) := by decide +kernel
theorem dL_law_22 : decode cL_law 22 = .ok (.isub, 1) := by decide +kernel
theorem dL_law_23 : decode cL_law 23 = .ok (.if_icmp .gt 1023, 3) := by decide +kernel
theorem dL_law_26 : decode cL_law 26 = .ok (.aload_n 0, 1) := by decide +kernel
theorem dL_law_27 : decode cL_law 27 = .ok (.iload_n 3, 1) := by decide +kernel
theorem dL_law_28 : decode cL_law 28 = .ok (.iaload, 1) := by decide +kernel
theorem dL_law_29 : decode cL_law 29 = .ok (.bipush 31, 2) := by decide +kernel
theorem dL_law_31 : decode cL_law 31 = .ok (.iand, 1) := by decide +kernel
theorem dL_law_32 : decode cL_law 32 = .ok (.tableswitch 1008 0 30 #[140, 163, 176, 189, 202, 225, 258, 291, 314, 337, 370, 383, 396, 409, 432, 445, 494, 527, 540, 573, 632, 655, 668, 691, 750, 793, 862, 916, 939, 962, 985], 140) := by decide +kernel
theorem dL_law_172 : decode cL_law 172 = .ok (.aload_n 1, 1) := by decide +kernel
theorem dL_law_173 : decode cL_law 173 = .ok (.aload_n 0, 1) := by decide +kernel
theorem dL_law_174 : decode cL_law 174 = .ok (.iload_n 3, 1) := by decide +kernel
theorem dL_law_175 : decode cL_law 175 = .ok (.iconst 1, 1) := by decide +kernel
theorem dL_law_176 : decode cL_law 176 = .ok (.iadd, 1) := by decide +kernel
theorem dL_law_177 : decode cL_law 177 = .ok (.iaload, 1) := by decide +kernel
theorem dL_law_178 : decode cL_law 178 = .ok (.invokevirtual 13, 3) := by decide +kernel
theorem dL_law_181 : decode cL_law 181 = .ok (.aload_n 2, 1) := by decide +kernel
theorem dL_law_182 : decode cL_law 182 = .ok (.aload_n 0, 1) := by decide +kernel
theorem dL_law_183 : decode cL_law 183 = .ok (.iload_n 3, 1) := by decide +kernel
theorem dL_law_184 : decode cL_law 184 = .ok (.iconst 1, 1) := by decide +kernel
theorem dL_law_185 : decode cL_law 185 = .ok (.iadd, 1) := by decide +kernel
theorem dL_law_186 : decode cL_law 186 = .ok (.iaload, 1) := by decide +kernel
theorem dL_law_187 : decode cL_law 187 = .ok (.invokevirtual 17, 3) := by decide +kernel
theorem dL_law_190 : decode cL_law 190 = .ok (.if_icmp .eq 850, 3) := by decide +kernel
theorem dL_law_193 : decode cL_law 193 = .ok (.iconst 0, 1) := by decide +kernel
theorem dL_law_194 : decode cL_law 194 = .ok (.ireturn, 1) := by decide +kernel
theorem dL_law_195 : decode cL_law 195 = .ok (.aload_n 1, 1) := by decide +kernel
theorem dL_law_196 : decode cL_law 196 = .ok (.invokevirtual 18, 3) := by decide +kernel
theorem dL_law_199 : decode cL_law 199 = .ok (.aload_n 2, 1) := by decide +kernel
theorem dL_law_200 : decode cL_law 200 = .ok (.invokevirtual 22, 3) := by decide +kernel
theorem dL_law_203 : decode cL_law 203 = .ok (.if_icmp .eq 837, 3) := by decide +kernel
theorem dL_law_206 : decode cL_law 206 = .ok (.iconst 0, 1) := by decide +kernel
theorem dL_law_207 : decode cL_law 207 = .ok (.ireturn, 1) := by decide +kernel
theorem dL_law_208 : decode cL_law 208 = .ok (.aload_n 1, 1) := by decide +kernel
theorem dL_law_209 : decode cL_law 209 = .ok (.invokevirtual 23, 3) := by decide +kernel
theorem dL_law_212 : decode cL_law 212 = .ok (.aload_n 2, 1) := by decide +kernel
theorem dL_law_213 : decode cL_law 213 = .ok (.invokevirtual 26, 3) := by decide +kernel
theorem dL_law_216 : decode cL_law 216 = .ok (.if_icmp .eq 824, 3) := by decide +kernel
theorem dL_law_219 : decode cL_law 219 = .ok (.iconst 0, 1) := by decide +kernel
theorem dL_law_220 : decode cL_law 220 = .ok (.ireturn, 1) := by decide +kernel
theorem dL_law_221 : decode cL_law 221 = .ok (.aload_n 1, 1) := by decide +kernel
theorem dL_law_222 : decode cL_law 222 = .ok (.invokevirtual 27, 3) := by decide +kernel
theorem dL_law_225 : decode cL_law 225 = .ok (.aload_n 2, 1) := by decide +kernel
theorem dL_law_226 : decode cL_law 226 = .ok (.invokevirtual 30, 3) := by decide +kernel
theorem dL_law_229 : decode cL_law 229 = .ok (.if_icmp .eq 811, 3) := by decide +kernel
theorem dL_law_232 : decode cL_law 232 = .ok (.iconst 0, 1) := by decide +kernel
theorem dL_law_233 : decode cL_law 233 = .ok (.ireturn, 1) := by decide +kernel
theorem dL_law_234 : decode cL_law 234 = .ok (.aload_n 1, 1) := by decide +kernel
theorem dL_law_235 : decode cL_law 235 = .ok (.aload_n 0, 1) := by decide +kernel
theorem dL_law_236 : decode cL_law 236 = .ok (.iload_n 3, 1) := by decide +kernel
theorem dL_law_237 : decode cL_law 237 = .ok (.iconst 1, 1) := by decide +kernel
theorem dL_law_238 : decode cL_law 238 = .ok (.iadd, 1) := by decide +kernel
theorem dL_law_239 : decode cL_law 239 = .ok (.iaload, 1) := by decide +kernel
theorem dL_law_240 : decode cL_law 240 = .ok (.invokevirtual 31, 3) := by decide +kernel
theorem dL_law_243 : decode cL_law 243 = .ok (.aload_n 2, 1) := by decide +kernel
theorem dL_law_244 : decode cL_law 244 = .ok (.aload_n 0, 1) := by decide +kernel
theorem dL_law_245 : decode cL_law 245 = .ok (.iload_n 3, 1) := by decide +kernel
theorem dL_law_246 : decode cL_law 246 = .ok (.iconst 1, 1) := by decide +kernel
theorem dL_law_247 : decode cL_law 247 = .ok (.iadd, 1) := by decide +kernel
theorem dL_law_248 : decode cL_law 248 = .ok (.iaload, 1) := by decide +kernel
theorem dL_law_249 : decode cL_law 249 = .ok (.invokevirtual 34, 3) := by decide +kernel
theorem dL_law_252 : decode cL_law 252 = .ok (.if_icmp .eq 788, 3) := by decide +kernel
theorem dL_law_255 : decode cL_law 255 = .ok (.iconst 0, 1) := by decide +kernel
theorem dL_law_256 : decode cL_law 256 = .ok (.ireturn, 1) := by decide +kernel
theorem dL_law_257 : decode cL_law 257 = .ok (.aload_n 1, 1) := by decide +kernel
theorem dL_law_258 : decode cL_law 258 = .ok (.aload_n 0, 1) := by decide +kernel
theorem dL_law_259 : decode cL_law 259 = .ok (.iload_n 3, 1) := by decide +kernel
theorem dL_law_260 : decode cL_law 260 = .ok (.iconst 1, 1) := by decide +kernel
theorem dL_law_261 : decode cL_law 261 = .ok (.iadd, 1) := by decide +kernel
theorem dL_law_262 : decode cL_law 262 = .ok (.iaload, 1) := by decide +kernel
theorem dL_law_263 : decode cL_law 263 = .ok (.aload_n 0, 1) := by decide +kernel
theorem dL_law_264 : decode cL_law 264 = .ok (.iload_n 3, 1) := by decide +kernel
theorem dL_law_265 : decode cL_law 265 = .ok (.iconst 2, 1) := by decide +kernel
theorem dL_law_266 : decode cL_law 266 = .ok (.iadd, 1) := by decide +kernel
theorem dL_law_267 : decode cL_law 267 = .ok (.iaload, 1) := by decide +kernel
theorem dL_law_268 : decode cL_law 268 = .ok (.invokevirtual 35, 3) := by decide +kernel
theorem dL_law_271 : decode cL_law 271 = .ok (.aload_n 2, 1) := by decide +kernel
theorem dL_law_272 : decode cL_law 272 = .ok (.aload_n 0, 1) := by decide +kernel
theorem dL_law_273 : decode cL_law 273 = .ok (.iload_n 3, 1) := by decide +kernel
theorem dL_law_274 : decode cL_law 274 = .ok (.iconst 1, 1) := by decide +kernel
theorem dL_law_275 : decode cL_law 275 = .ok (.iadd, 1) := by decide +kernel
theorem dL_law_276 : decode cL_law 276 = .ok (.iaload, 1) := by decide +kernel
theorem dL_law_277 : decode cL_law 277 = .ok (.aload_n 0, 1) := by decide +kernel
theorem dL_law_278 : decode cL_law 278 = .ok (.iload_n 3, 1) := by decide +kernel
theorem dL_law_279 : decode cL_law 279 = .ok (.iconst 2, 1) := by decide +kernel
theorem dL_law_280 : decode cL_law 280 = .ok (.iadd, 1) := by decide +kernel
theorem dL_law_281 : decode cL_law 281 = .ok (.iaload, 1) := by decide +kernel
theorem dL_law_282 : decode cL_law 282 = .ok (.invokevirtual 39, 3) := by decide +kernel
theorem dL_law_285 : decode cL_law 285 = .ok (.if_icmp .eq 755, 3) := by decide +kernel
theorem dL_law_288 : decode cL_law 288 = .ok (.iconst 0, 1) := by decide +kernel
theorem dL_law_289 : decode cL_law 289 = .ok (.ireturn, 1) := by decide +kernel
theorem dL_law_290 : decode cL_law 290 = .ok (.aload_n 1, 1) := by decide +kernel
theorem dL_law_291 : decode cL_law 291 = .ok (.aload_n 0, 1) := by decide +kernel
theorem dL_law_292 : decode cL_law 292 = .ok (.iload_n 3, 1) := by decide +kernel
theorem dL_law_293 : decode cL_law 293 = .ok (.iconst 1, 1) := by decide +kernel
theorem dL_law_294 : decode cL_law 294 = .ok (.iadd, 1) := by decide +kernel
theorem dL_law_295 : decode cL_law 295 = .ok (.iaload, 1) := by decide +kernel
theorem dL_law_296 : decode cL_law 296 = .ok (.aload_n 0, 1) := by decide +kernel
theorem dL_law_297 : decode cL_law 297 = .ok (.iload_n 3, 1) := by decide +kernel
theorem dL_law_298 : decode cL_law 298 = .ok (.iconst 2, 1) := by decide +kernel
theorem dL_law_299 : decode cL_law 299 = .ok (.iadd, 1) := by decide +kernel
theorem dL_law_300 : decode cL_law 300 = .ok (.iaload, 1) := by decide +kernel
theorem dL_law_301 : decode cL_law 301 = .ok (.invokevirtual 40, 3) := by decide +kernel
theorem dL_law_304 : decode cL_law 304 = .ok (.aload_n 2, 1) := by decide +kernel
theorem dL_law_305 : decode cL_law 305 = .ok (.aload_n 0, 1) := by decide +kernel
theorem dL_law_306 : decode cL_law 306 = .ok (.iload_n 3, 1) := by decide +kernel
theorem dL_law_307 : decode cL_law 307 = .ok (.iconst 1, 1) := by decide +kernel
theorem dL_law_308 : decode cL_law 308 = .ok (.iadd, 1) := by decide +kernel
theorem dL_law_309 : decode cL_law 309 = .ok (.iaload, 1) := by decide +kernel
theorem dL_law_310 : decode cL_law 310 = .ok (.aload_n 0, 1) := by decide +kernel
theorem dL_law_311 : decode cL_law 311 = .ok (.iload_n 3, 1) := by decide +kernel
theorem dL_law_312 : decode cL_law 312 = .ok (.iconst 2, 1) := by decide +kernel
theorem dL_law_313 : decode cL_law 313 = .ok (.iadd, 1) := by decide +kernel
theorem dL_law_314 : decode cL_law 314 = .ok (.iaload, 1) := by decide +kernel
theorem dL_law_315 : decode cL_law 315 = .ok (.invokevirtual 43, 3) := by decide +kernel
theorem dL_law_318 : decode cL_law 318 = .ok (.if_icmp .eq 722, 3) := by decide +kernel
theorem dL_law_321 : decode cL_law 321 = .ok (.iconst 0, 1) := by decide +kernel
theorem dL_law_322 : decode cL_law 322 = .ok (.ireturn, 1) := by decide +kernel
theorem dL_law_323 : decode cL_law 323 = .ok (.aload_n 1, 1) := by decide +kernel
theorem dL_law_324 : decode cL_law 324 = .ok (.aload_n 0, 1) := by decide +kernel
theorem dL_law_325 : decode cL_law 325 = .ok (.iload_n 3, 1) := by decide +kernel
theorem dL_law_326 : decode cL_law 326 = .ok (.iconst 1, 1) := by decide +kernel
theorem dL_law_327 : decode cL_law 327 = .ok (.iadd, 1) := by decide +kernel
theorem dL_law_328 : decode cL_law 328 = .ok (.iaload, 1) := by decide +kernel
theorem dL_law_329 : decode cL_law 329 = .ok (.invokevirtual 44, 3) := by decide +kernel
theorem dL_law_332 : decode cL_law 332 = .ok (.aload_n 2, 1) := by decide +kernel
theorem dL_law_333 : decode cL_law 333 = .ok (.aload_n 0, 1) := by decide +kernel
theorem dL_law_334 : decode cL_law 334 = .ok (.iload_n 3, 1) := by decide +kernel
theorem dL_law_335 : decode cL_law 335 = .ok (.iconst 1, 1) := by decide +kernel
theorem dL_law_336 : decode cL_law 336 = .ok (.iadd, 1) := by decide +kernel
theorem dL_law_337 : decode cL_law 337 = .ok (.iaload, 1) := by decide +kernel
theorem dL_law_338 : decode cL_law 338 = .ok (.invokevirtual 47, 3) := by decide +kernel
theorem dL_law_341 : decode cL_law 341 = .ok (.if_icmp .eq 699, 3) := by decide +kernel
theorem dL_law_344 : decode cL_law 344 = .ok (.iconst 0, 1) := by decide +kernel
theorem dL_law_345 : decode cL_law 345 = .ok (.ireturn, 1) := by decide +kernel
theorem dL_law_346 : decode cL_law 346 = .ok (.aload_n 1, 1) := by decide +kernel
theorem dL_law_347 : decode cL_law 347 = .ok (.aload_n 0, 1) := by decide +kernel
theorem dL_law_348 : decode cL_law 348 = .ok (.iload_n 3, 1) := by decide +kernel
theorem dL_law_349 : decode cL_law 349 = .ok (.iconst 1, 1) := by decide +kernel
theorem dL_law_350 : decode cL_law 350 = .ok (.iadd, 1) := by decide +kernel
theorem dL_law_351 : decode cL_law 351 = .ok (.iaload, 1) := by decide +kernel
theorem dL_law_352 : decode cL_law 352 = .ok (.invokevirtual 48, 3) := by decide +kernel
theorem dL_law_355 : decode cL_law 355 = .ok (.aload_n 2, 1) := by decide +kernel
theorem dL_law_356 : decode cL_law 356 = .ok (.aload_n 0, 1) := by decide +kernel
theorem dL_law_357 : decode cL_law 357 = .ok (.iload_n 3, 1) := by decide +kernel
theorem dL_law_358 : decode cL_law 358 = .ok (.iconst 1, 1) := by decide +kernel
theorem dL_law_359 : decode cL_law 359 = .ok (.iadd, 1) := by decide +kernel
theorem dL_law_360 : decode cL_law 360 = .ok (.iaload, 1) := by decide +kernel
theorem dL_law_361 : decode cL_law 361 = .ok (.invokevirtual 51, 3) := by decide +kernel
theorem dL_law_364 : decode cL_law 364 = .ok (.if_icmp .eq 676, 3) := by decide +kernel
theorem dL_law_367 : decode cL_law 367 = .ok (.iconst 0, 1) := by decide +kernel
theorem dL_law_368 : decode cL_law 368 = .ok (.ireturn, 1) := by decide +kernel
theorem dL_law_369 : decode cL_law 369 = .ok (.aload_n 1, 1) := by decide +kernel
theorem dL_law_370 : decode cL_law 370 = .ok (.aload_n 0, 1) := by decide +kernel
theorem dL_law_371 : decode cL_law 371 = .ok (.iload_n 3, 1) := by decide +kernel
theorem dL_law_372 : decode cL_law 372 = .ok (.iconst 1, 1) := by decide +kernel
theorem dL_law_373 : decode cL_law 373 = .ok (.iadd, 1) := by decide +kernel
theorem dL_law_374 : decode cL_law 374 = .ok (.iaload, 1) := by decide +kernel
theorem dL_law_375 : decode cL_law 375 = .ok (.aload_n 0, 1) := by decide +kernel
theorem dL_law_376 : decode cL_law 376 = .ok (.iload_n 3, 1) := by decide +kernel
theorem dL_law_377 : decode cL_law 377 = .ok (.iconst 2, 1) := by decide +kernel
theorem dL_law_378 : decode cL_law 378 = .ok (.iadd, 1) := by decide +kernel
theorem dL_law_379 : decode cL_law 379 = .ok (.iaload, 1) := by decide +kernel
theorem dL_law_380 : decode cL_law 380 = .ok (.invokevirtual 52, 3) := by decide +kernel
theorem dL_law_383 : decode cL_law 383 = .ok (.aload_n 2, 1) := by decide +kernel
theorem dL_law_384 : decode cL_law 384 = .ok (.aload_n 0, 1) := by decide +kernel
theorem dL_law_385 : decode cL_law 385 = .ok (.iload_n 3, 1) := by decide +kernel
theorem dL_law_386 : decode cL_law 386 = .ok (.iconst 1, 1) := by decide +kernel
theorem dL_law_387 : decode cL_law 387 = .ok (.iadd, 1) := by decide +kernel
theorem dL_law_388 : decode cL_law 388 = .ok (.iaload, 1) := by decide +kernel
theorem dL_law_389 : decode cL_law 389 = .ok (.aload_n 0, 1) := by decide +kernel
theorem dL_law_390 : decode cL_law 390 = .ok (.iload_n 3, 1) := by decide +kernel
theorem dL_law_391 : decode cL_law 391 = .ok (.iconst 2, 1) := by decide +kernel
theorem dL_law_392 : decode cL_law 392 = .ok (.iadd, 1) := by decide +kernel
theorem dL_law_393 : decode cL_law 393 = .ok (.iaload, 1) := by decide +kernel
theorem dL_law_394 : decode cL_law 394 = .ok (.invokevirtual 55, 3) := by decide +kernel
theorem dL_law_397 : decode cL_law 397 = .ok (.if_icmp .eq 643, 3) := by decide +kernel
theorem dL_law_400 : decode cL_law 400 = .ok (.iconst 0, 1) := by decide +kernel
theorem dL_law_401 : decode cL_law 401 = .ok (.ireturn, 1) := by decide +kernel
theorem dL_law_402 : decode cL_law 402 = .ok (.aload_n 1, 1) := by decide +kernel
theorem dL_law_403 : decode cL_law 403 = .ok (.invokevirtual 56, 3) := by decide +kernel
theorem dL_law_406 : decode cL_law 406 = .ok (.aload_n 2, 1) := by decide +kernel
theorem dL_law_407 : decode cL_law 407 = .ok (.invokevirtual 59, 3) := by decide +kernel
theorem dL_law_410 : decode cL_law 410 = .ok (.if_icmp .eq 630, 3) := by decide +kernel
theorem dL_law_413 : decode cL_law 413 = .ok (.iconst 0, 1) := by decide +kernel
theorem dL_law_414 : decode cL_law 414 = .ok (.ireturn, 1) := by decide +kernel
theorem dL_law_415 : decode cL_law 415 = .ok (.aload_n 1, 1) := by decide +kernel
theorem dL_law_416 : decode cL_law 416 = .ok (.invokevirtual 60, 3) := by decide +kernel
theorem dL_law_419 : decode cL_law 419 = .ok (.aload_n 2, 1) := by decide +kernel
theorem dL_law_420 : decode cL_law 420 = .ok (.invokevirtual 63, 3) := by decide +kernel
theorem dL_law_423 : decode cL_law 423 = .ok (.if_icmp .eq 617, 3) := by decide +kernel
theorem dL_law_426 : decode cL_law 426 = .ok (.iconst 0, 1) := by decide +kernel
theorem dL_law_427 : decode cL_law 427 = .ok (.ireturn, 1) := by decide +kernel
theorem dL_law_428 : decode cL_law 428 = .ok (.aload_n 1, 1) := by decide +kernel
theorem dL_law_429 : decode cL_law 429 = .ok (.invokevirtual 64, 3) := by decide +kernel
theorem dL_law_432 : decode cL_law 432 = .ok (.aload_n 2, 1) := by decide +kernel
theorem dL_law_433 : decode cL_law 433 = .ok (.invokevirtual 67, 3) := by decide +kernel
theorem dL_law_436 : decode cL_law 436 = .ok (.if_icmp .eq 604, 3) := by decide +kernel
theorem dL_law_439 : decode cL_law 439 = .ok (.iconst 0, 1) := by decide +kernel
theorem dL_law_440 : decode cL_law 440 = .ok (.ireturn, 1) := by decide +kernel
theorem dL_law_441 : decode cL_law 441 = .ok (.aload_n 1, 1) := by decide +kernel
theorem dL_law_442 : decode cL_law 442 = .ok (.aload_n 0, 1) := by decide +kernel
theorem dL_law_443 : decode cL_law 443 = .ok (.iload_n 3, 1) := by decide +kernel
theorem dL_law_444 : decode cL_law 444 = .ok (.iconst 1, 1) := by decide +kernel
theorem dL_law_445 : decode cL_law 445 = .ok (.iadd, 1) := by decide +kernel
theorem dL_law_446 : decode cL_law 446 = .ok (.iaload, 1) := by decide +kernel
theorem dL_law_447 : decode cL_law 447 = .ok (.invokevirtual 68, 3) := by decide +kernel
theorem dL_law_450 : decode cL_law 450 = .ok (.aload_n 2, 1) := by decide +kernel
theorem dL_law_451 : decode cL_law 451 = .ok (.aload_n 0, 1) := by decide +kernel
theorem dL_law_452 : decode cL_law 452 = .ok (.iload_n 3, 1) := by decide +kernel
theorem dL_law_453 : decode cL_law 453 = .ok (.iconst 1, 1) := by decide +kernel
theorem dL_law_454 : decode cL_law 454 = .ok (.iadd, 1) := by decide +kernel
theorem dL_law_455 : decode cL_law 455 = .ok (.iaload, 1) := by decide +kernel
theorem dL_law_456 : decode cL_law 456 = .ok (.invokevirtual 71, 3) := by decide +kernel
theorem dL_law_459 : decode cL_law 459 = .ok (.if_icmp .eq 581, 3) := by decide +kernel
theorem dL_law_462 : decode cL_law 462 = .ok (.iconst 0, 1) := by decide +kernel
theorem dL_law_463 : decode cL_law 463 = .ok (.ireturn, 1) := by decide +kernel
theorem dL_law_464 : decode cL_law 464 = .ok (.aload_n 1, 1) := by decide +kernel
theorem dL_law_465 : decode cL_law 465 = .ok (.invokevirtual 72, 3) := by decide +kernel
theorem dL_law_468 : decode cL_law 468 = .ok (.aload_n 2, 1) := by decide +kernel
theorem dL_law_469 : decode cL_law 469 = .ok (.invokevirtual 75, 3) := by decide +kernel
theorem dL_law_472 : decode cL_law 472 = .ok (.if_icmp .eq 568, 3) := by decide +kernel
theorem dL_law_475 : decode cL_law 475 = .ok (.iconst 0, 1) := by decide +kernel
theorem dL_law_476 : decode cL_law 476 = .ok (.ireturn, 1) := by decide +kernel
theorem dL_law_477 : decode cL_law 477 = .ok (.aload_n 1, 1) := by decide +kernel
theorem dL_law_478 : decode cL_law 478 = .ok (.aload_n 0, 1) := by decide +kernel
theorem dL_law_479 : decode cL_law 479 = .ok (.iload_n 3, 1) := by decide +kernel
theorem dL_law_480 : decode cL_law 480 = .ok (.iconst 1, 1) := by decide +kernel
theorem dL_law_481 : decode cL_law 481 = .ok (.iadd, 1) := by decide +kernel
theorem dL_law_482 : decode cL_law 482 = .ok (.iaload, 1) := by decide +kernel
theorem dL_law_483 : decode cL_law 483 = .ok (.aload_n 0, 1) := by decide +kernel
theorem dL_law_484 : decode cL_law 484 = .ok (.iload_n 3, 1) := by decide +kernel
theorem dL_law_485 : decode cL_law 485 = .ok (.iconst 2, 1) := by decide +kernel
theorem dL_law_486 : decode cL_law 486 = .ok (.iadd, 1) := by decide +kernel
theorem dL_law_487 : decode cL_law 487 = .ok (.iaload, 1) := by decide +kernel
theorem dL_law_488 : decode cL_law 488 = .ok (.ifCond .eq 7, 3) := by decide +kernel
theorem dL_law_491 : decode cL_law 491 = .ok (.iconst 1, 1) := by decide +kernel
theorem dL_law_492 : decode cL_law 492 = .ok (.goto 4, 3) := by decide +kernel
theorem dL_law_495 : decode cL_law 495 = .ok (.iconst 0, 1) := by decide +kernel
theorem dL_law_496 : decode cL_law 496 = .ok (.invokevirtual 76, 3) := by decide +kernel
theorem dL_law_499 : decode cL_law 499 = .ok (.aload_n 2, 1) := by decide +kernel
theorem dL_law_500 : decode cL_law 500 = .ok (.aload_n 0, 1) := by decide +kernel
theorem dL_law_501 : decode cL_law 501 = .ok (.iload_n 3, 1) := by decide +kernel
theorem dL_law_502 : decode cL_law 502 = .ok (.iconst 1, 1) := by decide +kernel
theorem dL_law_503 : decode cL_law 503 = .ok (.iadd, 1) := by decide +kernel
theorem dL_law_504 : decode cL_law 504 = .ok (.iaload, 1) := by decide +kernel
theorem dL_law_505 : decode cL_law 505 = .ok (.aload_n 0, 1) := by decide +kernel
theorem dL_law_506 : decode cL_law 506 = .ok (.iload_n 3, 1) := by decide +kernel
theorem dL_law_507 : decode cL_law 507 = .ok (.iconst 2, 1) := by decide +kernel
theorem dL_law_508 : decode cL_law 508 = .ok (.iadd, 1) := by decide +kernel
theorem dL_law_509 : decode cL_law 509 = .ok (.iaload, 1) := by decide +kernel
theorem dL_law_510 : decode cL_law 510 = .ok (.ifCond .eq 7, 3) := by decide +kernel
theorem dL_law_513 : decode cL_law 513 = .ok (.iconst 1, 1) := by decide +kernel
theorem dL_law_514 : decode cL_law 514 = .ok (.goto 4, 3) := by decide +kernel
theorem dL_law_517 : decode cL_law 517 = .ok (.iconst 0, 1) := by decide +kernel
theorem dL_law_518 : decode cL_law 518 = .ok (.invokevirtual 80, 3) := by decide +kernel
theorem dL_law_521 : decode cL_law 521 = .ok (.if_icmp .eq 519, 3) := by decide +kernel
theorem dL_law_524 : decode cL_law 524 = .ok (.iconst 0, 1) := by decide +kernel
theorem dL_law_525 : decode cL_law 525 = .ok (.ireturn, 1) := by decide +kernel
theorem dL_law_526 : decode cL_law 526 = .ok (.aload_n 1, 1) := by decide +kernel
theorem dL_law_527 : decode cL_law 527 = .ok (.aload_n 0, 1) := by decide +kernel
theorem dL_law_528 : decode cL_law 528 = .ok (.iload_n 3, 1) := by decide +kernel
theorem dL_law_529 : decode cL_law 529 = .ok (.iconst 1, 1) := by decide +kernel
theorem dL_law_530 : decode cL_law 530 = .ok (.iadd, 1) := by decide +kernel
theorem dL_law_531 : decode cL_law 531 = .ok (.iaload, 1) := by decide +kernel
theorem dL_law_532 : decode cL_law 532 = .ok (.aload_n 0, 1) := by decide +kernel
theorem dL_law_533 : decode cL_law 533 = .ok (.iload_n 3, 1) := by decide +kernel
theorem dL_law_534 : decode cL_law 534 = .ok (.iconst 2, 1) := by decide +kernel
theorem dL_law_535 : decode cL_law 535 = .ok (.iadd, 1) := by decide +kernel
theorem dL_law_536 : decode cL_law 536 = .ok (.iaload, 1) := by decide +kernel
theorem dL_law_537 : decode cL_law 537 = .ok (.invokevirtual 81, 3) := by decide +kernel
theorem dL_law_540 : decode cL_law 540 = .ok (.aload_n 2, 1) := by decide +kernel
theorem dL_law_541 : decode cL_law 541 = .ok (.aload_n 0, 1) := by decide +kernel
theorem dL_law_542 : decode cL_law 542 = .ok (.iload_n 3, 1) := by decide +kernel
theorem dL_law_543 : decode cL_law 543 = .ok (.iconst 1, 1) := by decide +kernel
theorem dL_law_544 : decode cL_law 544 = .ok (.iadd, 1) := by decide +kernel
theorem dL_law_545 : decode cL_law 545 = .ok (.iaload, 1) := by decide +kernel
theorem dL_law_546 : decode cL_law 546 = .ok (.aload_n 0, 1) := by decide +kernel
theorem dL_law_547 : decode cL_law 547 = .ok (.iload_n 3, 1) := by decide +kernel
theorem dL_law_548 : decode cL_law 548 = .ok (.iconst 2, 1) := by decide +kernel
theorem dL_law_549 : decode cL_law 549 = .ok (.iadd, 1) := by decide +kernel
theorem dL_law_550 : decode cL_law 550 = .ok (.iaload, 1) := by decide +kernel
theorem dL_law_551 : decode cL_law 551 = .ok (.invokevirtual 84, 3) := by decide +kernel
theorem dL_law_554 : decode cL_law 554 = .ok (.if_icmp .eq 486, 3) := by decide +kernel
theorem dL_law_557 : decode cL_law 557 = .ok (.iconst 0, 1) := by decide +kernel
theorem dL_law_558 : decode cL_law 558 = .ok (.ireturn, 1) := by decide +kernel
theorem dL_law_559 : decode cL_law 559 = .ok (.aload_n 1, 1) := by decide +kernel
theorem dL_law_560 : decode cL_law 560 = .ok (.invokevirtual 85, 3) := by decide +kernel
theorem dL_law_563 : decode cL_law 563 = .ok (.aload_n 2, 1) := by decide +kernel
theorem dL_law_564 : decode cL_law 564 = .ok (.invokevirtual 88, 3) := by decide +kernel
theorem dL_law_567 : decode cL_law 567 = .ok (.if_icmp .eq 473, 3) := by decide +kernel
theorem dL_law_570 : decode cL_law 570 = .ok (.iconst 0, 1) := by decide +kernel
theorem dL_law_571 : decode cL_law 571 = .ok (.ireturn, 1) := by decide +kernel
theorem dL_law_572 : decode cL_law 572 = .ok (.aload_n 1, 1) := by decide +kernel
theorem dL_law_573 : decode cL_law 573 = .ok (.aload_n 0, 1) := by decide +kernel
theorem dL_law_574 : decode cL_law 574 = .ok (.iload_n 3, 1) := by decide +kernel
theorem dL_law_575 : decode cL_law 575 = .ok (.iconst 1, 1) := by decide +kernel
theorem dL_law_576 : decode cL_law 576 = .ok (.iadd, 1) := by decide +kernel
theorem dL_law_577 : decode cL_law 577 = .ok (.iaload, 1) := by decide +kernel
theorem dL_law_578 : decode cL_law 578 = .ok (.aload_n 0, 1) := by decide +kernel
theorem dL_law_579 : decode cL_law 579 = .ok (.iload_n 3, 1) := by decide +kernel
theorem dL_law_580 : decode cL_law 580 = .ok (.iconst 2, 1) := by decide +kernel
theorem dL_law_581 : decode cL_law 581 = .ok (.iadd, 1) := by decide +kernel
theorem dL_law_582 : decode cL_law 582 = .ok (.iaload, 1) := by decide +kernel
theorem dL_law_583 : decode cL_law 583 = .ok (.invokevirtual 89, 3) := by decide +kernel
theorem dL_law_586 : decode cL_law 586 = .ok (.aload_n 2, 1) := by decide +kernel
theorem dL_law_587 : decode cL_law 587 = .ok (.aload_n 0, 1) := by decide +kernel
theorem dL_law_588 : decode cL_law 588 = .ok (.iload_n 3, 1) := by decide +kernel
theorem dL_law_589 : decode cL_law 589 = .ok (.iconst 1, 1) := by decide +kernel
theorem dL_law_590 : decode cL_law 590 = .ok (.iadd, 1) := by decide +kernel
theorem dL_law_591 : decode cL_law 591 = .ok (.iaload, 1) := by decide +kernel
theorem dL_law_592 : decode cL_law 592 = .ok (.aload_n 0, 1) := by decide +kernel
theorem dL_law_593 : decode cL_law 593 = .ok (.iload_n 3, 1) := by decide +kernel
theorem dL_law_594 : decode cL_law 594 = .ok (.iconst 2, 1) := by decide +kernel
theorem dL_law_595 : decode cL_law 595 = .ok (.iadd, 1) := by decide +kernel
theorem dL_law_596 : decode cL_law 596 = .ok (.iaload, 1) := by decide +kernel
theorem dL_law_597 : decode cL_law 597 = .ok (.invokevirtual 92, 3) := by decide +kernel
theorem dL_law_600 : decode cL_law 600 = .ok (.if_icmp .eq 440, 3) := by decide +kernel
theorem dL_law_603 : decode cL_law 603 = .ok (.iconst 0, 1) := by decide +kernel
theorem dL_law_604 : decode cL_law 604 = .ok (.ireturn, 1) := by decide +kernel
theorem dL_law_605 : decode cL_law 605 = .ok (.aload_n 1, 1) := by decide +kernel
theorem dL_law_606 : decode cL_law 606 = .ok (.aload_n 0, 1) := by decide +kernel
theorem dL_law_607 : decode cL_law 607 = .ok (.iload_n 3, 1) := by decide +kernel
theorem dL_law_608 : decode cL_law 608 = .ok (.iconst 1, 1) := by decide +kernel
theorem dL_law_609 : decode cL_law 609 = .ok (.iadd, 1) := by decide +kernel
theorem dL_law_610 : decode cL_law 610 = .ok (.iaload, 1) := by decide +kernel
theorem dL_law_611 : decode cL_law 611 = .ok (.aload_n 0, 1) := by decide +kernel
theorem dL_law_612 : decode cL_law 612 = .ok (.iload_n 3, 1) := by decide +kernel
theorem dL_law_613 : decode cL_law 613 = .ok (.iconst 2, 1) := by decide +kernel
theorem dL_law_614 : decode cL_law 614 = .ok (.iadd, 1) := by decide +kernel
theorem dL_law_615 : decode cL_law 615 = .ok (.iaload, 1) := by decide +kernel
theorem dL_law_616 : decode cL_law 616 = .ok (.aload_n 0, 1) := by decide +kernel
theorem dL_law_617 : decode cL_law 617 = .ok (.iload_n 3, 1) := by decide +kernel
theorem dL_law_618 : decode cL_law 618 = .ok (.iconst 3, 1) := by decide +kernel
theorem dL_law_619 : decode cL_law 619 = .ok (.iadd, 1) := by decide +kernel
theorem dL_law_620 : decode cL_law 620 = .ok (.iaload, 1) := by decide +kernel
theorem dL_law_621 : decode cL_law 621 = .ok (.ifCond .eq 7, 3) := by decide +kernel
theorem dL_law_624 : decode cL_law 624 = .ok (.iconst 1, 1) := by decide +kernel
theorem dL_law_625 : decode cL_law 625 = .ok (.goto 4, 3) := by decide +kernel
theorem dL_law_628 : decode cL_law 628 = .ok (.iconst 0, 1) := by decide +kernel
theorem dL_law_629 : decode cL_law 629 = .ok (.invokevirtual 93, 3) := by decide +kernel
theorem dL_law_632 : decode cL_law 632 = .ok (.aload_n 2, 1) := by decide +kernel
theorem dL_law_633 : decode cL_law 633 = .ok (.aload_n 0, 1) := by decide +kernel
theorem dL_law_634 : decode cL_law 634 = .ok (.iload_n 3, 1) := by decide +kernel
theorem dL_law_635 : decode cL_law 635 = .ok (.iconst 1, 1) := by decide +kernel
theorem dL_law_636 : decode cL_law 636 = .ok (.iadd, 1) := by decide +kernel
theorem dL_law_637 : decode cL_law 637 = .ok (.iaload, 1) := by decide +kernel
theorem dL_law_638 : decode cL_law 638 = .ok (.aload_n 0, 1) := by decide +kernel
theorem dL_law_639 : decode cL_law 639 = .ok (.iload_n 3, 1) := by decide +kernel
theorem dL_law_640 : decode cL_law 640 = .ok (.iconst 2, 1) := by decide +kernel
theorem dL_law_641 : decode cL_law 641 = .ok (.iadd, 1) := by decide +kernel
theorem dL_law_642 : decode cL_law 642 = .ok (.iaload, 1) := by decide +kernel
theorem dL_law_643 : decode cL_law 643 = .ok (.aload_n 0, 1) := by decide +kernel
theorem dL_law_644 : decode cL_law 644 = .ok (.iload_n 3, 1) := by decide +kernel
theorem dL_law_645 : decode cL_law 645 = .ok (.iconst 3, 1) := by decide +kernel
theorem dL_law_646 : decode cL_law 646 = .ok (.iadd, 1) := by decide +kernel
theorem dL_law_647 : decode cL_law 647 = .ok (.iaload, 1) := by decide +kernel
theorem dL_law_648 : decode cL_law 648 = .ok (.ifCond .eq 7, 3) := by decide +kernel
theorem dL_law_651 : decode cL_law 651 = .ok (.iconst 1, 1) := by decide +kernel
theorem dL_law_652 : decode cL_law 652 = .ok (.goto 4, 3) := by decide +kernel
theorem dL_law_655 : decode cL_law 655 = .ok (.iconst 0, 1) := by decide +kernel
theorem dL_law_656 : decode cL_law 656 = .ok (.invokevirtual 97, 3) := by decide +kernel
theorem dL_law_659 : decode cL_law 659 = .ok (.if_icmp .eq 381, 3) := by decide +kernel
theorem dL_law_662 : decode cL_law 662 = .ok (.iconst 0, 1) := by decide +kernel
theorem dL_law_663 : decode cL_law 663 = .ok (.ireturn, 1) := by decide +kernel
theorem dL_law_664 : decode cL_law 664 = .ok (.aload_n 1, 1) := by decide +kernel
theorem dL_law_665 : decode cL_law 665 = .ok (.aload_n 0, 1) := by decide +kernel
theorem dL_law_666 : decode cL_law 666 = .ok (.iload_n 3, 1) := by decide +kernel
theorem dL_law_667 : decode cL_law 667 = .ok (.iconst 1, 1) := by decide +kernel
theorem dL_law_668 : decode cL_law 668 = .ok (.iadd, 1) := by decide +kernel
theorem dL_law_669 : decode cL_law 669 = .ok (.iaload, 1) := by decide +kernel
theorem dL_law_670 : decode cL_law 670 = .ok (.invokevirtual 98, 3) := by decide +kernel
theorem dL_law_673 : decode cL_law 673 = .ok (.aload_n 2, 1) := by decide +kernel
theorem dL_law_674 : decode cL_law 674 = .ok (.aload_n 0, 1) := by decide +kernel
theorem dL_law_675 : decode cL_law 675 = .ok (.iload_n 3, 1) := by decide +kernel
theorem dL_law_676 : decode cL_law 676 = .ok (.iconst 1, 1) := by decide +kernel
theorem dL_law_677 : decode cL_law 677 = .ok (.iadd, 1) := by decide +kernel
theorem dL_law_678 : decode cL_law 678 = .ok (.iaload, 1) := by decide +kernel
theorem dL_law_679 : decode cL_law 679 = .ok (.invokevirtual 101, 3) := by decide +kernel
theorem dL_law_682 : decode cL_law 682 = .ok (.if_icmp .eq 358, 3) := by decide +kernel
theorem dL_law_685 : decode cL_law 685 = .ok (.iconst 0, 1) := by decide +kernel
theorem dL_law_686 : decode cL_law 686 = .ok (.ireturn, 1) := by decide +kernel
theorem dL_law_687 : decode cL_law 687 = .ok (.aload_n 1, 1) := by decide +kernel
theorem dL_law_688 : decode cL_law 688 = .ok (.invokevirtual 102, 3) := by decide +kernel
theorem dL_law_691 : decode cL_law 691 = .ok (.aload_n 2, 1) := by decide +kernel
theorem dL_law_692 : decode cL_law 692 = .ok (.invokevirtual 105, 3) := by decide +kernel
theorem dL_law_695 : decode cL_law 695 = .ok (.if_icmp .eq 345, 3) := by decide +kernel
theorem dL_law_698 : decode cL_law 698 = .ok (.iconst 0, 1) := by decide +kernel
theorem dL_law_699 : decode cL_law 699 = .ok (.ireturn, 1) := by decide +kernel
theorem dL_law_700 : decode cL_law 700 = .ok (.aload_n 1, 1) := by decide +kernel
theorem dL_law_701 : decode cL_law 701 = .ok (.aload_n 0, 1) := by decide +kernel
theorem dL_law_702 : decode cL_law 702 = .ok (.iload_n 3, 1) := by decide +kernel
theorem dL_law_703 : decode cL_law 703 = .ok (.iconst 1, 1) := by decide +kernel
theorem dL_law_704 : decode cL_law 704 = .ok (.iadd, 1) := by decide +kernel
theorem dL_law_705 : decode cL_law 705 = .ok (.iaload, 1) := by decide +kernel
theorem dL_law_706 : decode cL_law 706 = .ok (.invokevirtual 106, 3) := by decide +kernel
theorem dL_law_709 : decode cL_law 709 = .ok (.aload_n 2, 1) := by decide +kernel
theorem dL_law_710 : decode cL_law 710 = .ok (.aload_n 0, 1) := by decide +kernel
theorem dL_law_711 : decode cL_law 711 = .ok (.iload_n 3, 1) := by decide +kernel
theorem dL_law_712 : decode cL_law 712 = .ok (.iconst 1, 1) := by decide +kernel
theorem dL_law_713 : decode cL_law 713 = .ok (.iadd, 1) := by decide +kernel
theorem dL_law_714 : decode cL_law 714 = .ok (.iaload, 1) := by decide +kernel
theorem dL_law_715 : decode cL_law 715 = .ok (.invokevirtual 109, 3) := by decide +kernel
theorem dL_law_718 : decode cL_law 718 = .ok (.if_icmp .eq 322, 3) := by decide +kernel
theorem dL_law_721 : decode cL_law 721 = .ok (.iconst 0, 1) := by decide +kernel
theorem dL_law_722 : decode cL_law 722 = .ok (.ireturn, 1) := by decide +kernel
theorem dL_law_723 : decode cL_law 723 = .ok (.aload_n 1, 1) := by decide +kernel
theorem dL_law_724 : decode cL_law 724 = .ok (.aload_n 0, 1) := by decide +kernel
theorem dL_law_725 : decode cL_law 725 = .ok (.iload_n 3, 1) := by decide +kernel
theorem dL_law_726 : decode cL_law 726 = .ok (.iconst 1, 1) := by decide +kernel
theorem dL_law_727 : decode cL_law 727 = .ok (.iadd, 1) := by decide +kernel
theorem dL_law_728 : decode cL_law 728 = .ok (.iaload, 1) := by decide +kernel
theorem dL_law_729 : decode cL_law 729 = .ok (.aload_n 0, 1) := by decide +kernel
theorem dL_law_730 : decode cL_law 730 = .ok (.iload_n 3, 1) := by decide +kernel
theorem dL_law_731 : decode cL_law 731 = .ok (.iconst 2, 1) := by decide +kernel
theorem dL_law_732 : decode cL_law 732 = .ok (.iadd, 1) := by decide +kernel
theorem dL_law_733 : decode cL_law 733 = .ok (.iaload, 1) := by decide +kernel
theorem dL_law_734 : decode cL_law 734 = .ok (.aload_n 0, 1) := by decide +kernel
theorem dL_law_735 : decode cL_law 735 = .ok (.iload_n 3, 1) := by decide +kernel
theorem dL_law_736 : decode cL_law 736 = .ok (.iconst 3, 1) := by decide +kernel
theorem dL_law_737 : decode cL_law 737 = .ok (.iadd, 1) := by decide +kernel
theorem dL_law_738 : decode cL_law 738 = .ok (.iaload, 1) := by decide +kernel
theorem dL_law_739 : decode cL_law 739 = .ok (.ifCond .eq 7, 3) := by decide +kernel
theorem dL_law_742 : decode cL_law 742 = .ok (.iconst 1, 1) := by decide +kernel
theorem dL_law_743 : decode cL_law 743 = .ok (.goto 4, 3) := by decide +kernel
theorem dL_law_746 : decode cL_law 746 = .ok (.iconst 0, 1) := by decide +kernel
theorem dL_law_747 : decode cL_law 747 = .ok (.invokevirtual 110, 3) := by decide +kernel
theorem dL_law_750 : decode cL_law 750 = .ok (.aload_n 2, 1) := by decide +kernel
theorem dL_law_751 : decode cL_law 751 = .ok (.aload_n 0, 1) := by decide +kernel
theorem dL_law_752 : decode cL_law 752 = .ok (.iload_n 3, 1) := by decide +kernel
theorem dL_law_753 : decode cL_law 753 = .ok (.iconst 1, 1) := by decide +kernel
theorem dL_law_754 : decode cL_law 754 = .ok (.iadd, 1) := by decide +kernel
theorem dL_law_755 : decode cL_law 755 = .ok (.iaload, 1) := by decide +kernel
theorem dL_law_756 : decode cL_law 756 = .ok (.aload_n 0, 1) := by decide +kernel
theorem dL_law_757 : decode cL_law 757 = .ok (.iload_n 3, 1) := by decide +kernel
theorem dL_law_758 : decode cL_law 758 = .ok (.iconst 2, 1) := by decide +kernel
theorem dL_law_759 : decode cL_law 759 = .ok (.iadd, 1) := by decide +kernel
theorem dL_law_760 : decode cL_law 760 = .ok (.iaload, 1) := by decide +kernel
theorem dL_law_761 : decode cL_law 761 = .ok (.aload_n 0, 1) := by decide +kernel
theorem dL_law_762 : decode cL_law 762 = .ok (.iload_n 3, 1) := by decide +kernel
theorem dL_law_763 : decode cL_law 763 = .ok (.iconst 3, 1) := by decide +kernel
theorem dL_law_764 : decode cL_law 764 = .ok (.iadd, 1) := by decide +kernel
theorem dL_law_765 : decode cL_law 765 = .ok (.iaload, 1) := by decide +kernel
theorem dL_law_766 : decode cL_law 766 = .ok (.ifCond .eq 7, 3) := by decide +kernel
theorem dL_law_769 : decode cL_law 769 = .ok (.iconst 1, 1) := by decide +kernel
theorem dL_law_770 : decode cL_law 770 = .ok (.goto 4, 3) := by decide +kernel
theorem dL_law_773 : decode cL_law 773 = .ok (.iconst 0, 1) := by decide +kernel
theorem dL_law_774 : decode cL_law 774 = .ok (.invokevirtual 113, 3) := by decide +kernel
theorem dL_law_777 : decode cL_law 777 = .ok (.if_icmp .eq 263, 3) := by decide +kernel
theorem dL_law_780 : decode cL_law 780 = .ok (.iconst 0, 1) := by decide +kernel
theorem dL_law_781 : decode cL_law 781 = .ok (.ireturn, 1) := by decide +kernel
theorem dL_law_782 : decode cL_law 782 = .ok (.aload_n 1, 1) := by decide +kernel
theorem dL_law_783 : decode cL_law 783 = .ok (.aload_n 0, 1) := by decide +kernel
theorem dL_law_784 : decode cL_law 784 = .ok (.iload_n 3, 1) := by decide +kernel
theorem dL_law_785 : decode cL_law 785 = .ok (.iconst 1, 1) := by decide +kernel
theorem dL_law_786 : decode cL_law 786 = .ok (.iadd, 1) := by decide +kernel
theorem dL_law_787 : decode cL_law 787 = .ok (.iaload, 1) := by decide +kernel
theorem dL_law_788 : decode cL_law 788 = .ok (.aload_n 0, 1) := by decide +kernel
theorem dL_law_789 : decode cL_law 789 = .ok (.iload_n 3, 1) := by decide +kernel
theorem dL_law_790 : decode cL_law 790 = .ok (.iconst 2, 1) := by decide +kernel
theorem dL_law_791 : decode cL_law 791 = .ok (.iadd, 1) := by decide +kernel
theorem dL_law_792 : decode cL_law 792 = .ok (.iaload, 1) := by decide +kernel
theorem dL_law_793 : decode cL_law 793 = .ok (.aload_n 0, 1) := by decide +kernel
theorem dL_law_794 : decode cL_law 794 = .ok (.iload_n 3, 1) := by decide +kernel
theorem dL_law_795 : decode cL_law 795 = .ok (.iconst 3, 1) := by decide +kernel
theorem dL_law_796 : decode cL_law 796 = .ok (.iadd, 1) := by decide +kernel
theorem dL_law_797 : decode cL_law 797 = .ok (.iaload, 1) := by decide +kernel
theorem dL_law_798 : decode cL_law 798 = .ok (.invokevirtual 114, 3) := by decide +kernel
theorem dL_law_801 : decode cL_law 801 = .ok (.aload_n 2, 1) := by decide +kernel
theorem dL_law_802 : decode cL_law 802 = .ok (.aload_n 0, 1) := by decide +kernel
theorem dL_law_803 : decode cL_law 803 = .ok (.iload_n 3, 1) := by decide +kernel
theorem dL_law_804 : decode cL_law 804 = .ok (.iconst 1, 1) := by decide +kernel
theorem dL_law_805 : decode cL_law 805 = .ok (.iadd, 1) := by decide +kernel
theorem dL_law_806 : decode cL_law 806 = .ok (.iaload, 1) := by decide +kernel
theorem dL_law_807 : decode cL_law 807 = .ok (.aload_n 0, 1) := by decide +kernel
theorem dL_law_808 : decode cL_law 808 = .ok (.iload_n 3, 1) := by decide +kernel
theorem dL_law_809 : decode cL_law 809 = .ok (.iconst 2, 1) := by decide +kernel
theorem dL_law_810 : decode cL_law 810 = .ok (.iadd, 1) := by decide +kernel
theorem dL_law_811 : decode cL_law 811 = .ok (.iaload, 1) := by decide +kernel
theorem dL_law_812 : decode cL_law 812 = .ok (.aload_n 0, 1) := by decide +kernel
theorem dL_law_813 : decode cL_law 813 = .ok (.iload_n 3, 1) := by decide +kernel
theorem dL_law_814 : decode cL_law 814 = .ok (.iconst 3, 1) := by decide +kernel
theorem dL_law_815 : decode cL_law 815 = .ok (.iadd, 1) := by decide +kernel
theorem dL_law_816 : decode cL_law 816 = .ok (.iaload, 1) := by decide +kernel
theorem dL_law_817 : decode cL_law 817 = .ok (.invokevirtual 118, 3) := by decide +kernel
theorem dL_law_820 : decode cL_law 820 = .ok (.if_icmp .eq 220, 3) := by decide +kernel
theorem dL_law_823 : decode cL_law 823 = .ok (.iconst 0, 1) := by decide +kernel
theorem dL_law_824 : decode cL_law 824 = .ok (.ireturn, 1) := by decide +kernel
theorem dL_law_825 : decode cL_law 825 = .ok (.aload_n 1, 1) := by decide +kernel
theorem dL_law_826 : decode cL_law 826 = .ok (.aload_n 0, 1) := by decide +kernel
theorem dL_law_827 : decode cL_law 827 = .ok (.iload_n 3, 1) := by decide +kernel
theorem dL_law_828 : decode cL_law 828 = .ok (.iconst 1, 1) := by decide +kernel
theorem dL_law_829 : decode cL_law 829 = .ok (.iadd, 1) := by decide +kernel
theorem dL_law_830 : decode cL_law 830 = .ok (.iaload, 1) := by decide +kernel
theorem dL_law_831 : decode cL_law 831 = .ok (.aload_n 0, 1) := by decide +kernel
theorem dL_law_832 : decode cL_law 832 = .ok (.iload_n 3, 1) := by decide +kernel
theorem dL_law_833 : decode cL_law 833 = .ok (.iconst 2, 1) := by decide +kernel
theorem dL_law_834 : decode cL_law 834 = .ok (.iadd, 1) := by decide +kernel
theorem dL_law_835 : decode cL_law 835 = .ok (.iaload, 1) := by decide +kernel
theorem dL_law_836 : decode cL_law 836 = .ok (.aload_n 0, 1) := by decide +kernel
theorem dL_law_837 : decode cL_law 837 = .ok (.iload_n 3, 1) := by decide +kernel
theorem dL_law_838 : decode cL_law 838 = .ok (.iconst 3, 1) := by decide +kernel
theorem dL_law_839 : decode cL_law 839 = .ok (.iadd, 1) := by decide +kernel
theorem dL_law_840 : decode cL_law 840 = .ok (.iaload, 1) := by decide +kernel
theorem dL_law_841 : decode cL_law 841 = .ok (.aload_n 0, 1) := by decide +kernel
theorem dL_law_842 : decode cL_law 842 = .ok (.iload_n 3, 1) := by decide +kernel
theorem dL_law_843 : decode cL_law 843 = .ok (.iconst 4, 1) := by decide +kernel
theorem dL_law_844 : decode cL_law 844 = .ok (.iadd, 1) := by decide +kernel
theorem dL_law_845 : decode cL_law 845 = .ok (.iaload, 1) := by decide +kernel
theorem dL_law_846 : decode cL_law 846 = .ok (.ifCond .eq 7, 3) := by decide +kernel
theorem dL_law_849 : decode cL_law 849 = .ok (.iconst 1, 1) := by decide +kernel
theorem dL_law_850 : decode cL_law 850 = .ok (.goto 4, 3) := by decide +kernel
theorem dL_law_853 : decode cL_law 853 = .ok (.iconst 0, 1) := by decide +kernel
theorem dL_law_854 : decode cL_law 854 = .ok (.invokevirtual 119, 3) := by decide +kernel
theorem dL_law_857 : decode cL_law 857 = .ok (.aload_n 2, 1) := by decide +kernel
theorem dL_law_858 : decode cL_law 858 = .ok (.aload_n 0, 1) := by decide +kernel
theorem dL_law_859 : decode cL_law 859 = .ok (.iload_n 3, 1) := by decide +kernel
theorem dL_law_860 : decode cL_law 860 = .ok (.iconst 1, 1) := by decide +kernel
theorem dL_law_861 : decode cL_law 861 = .ok (.iadd, 1) := by decide +kernel
theorem dL_law_862 : decode cL_law 862 = .ok (.iaload, 1) := by decide +kernel
theorem dL_law_863 : decode cL_law 863 = .ok (.aload_n 0, 1) := by decide +kernel
theorem dL_law_864 : decode cL_law 864 = .ok (.iload_n 3, 1) := by decide +kernel
theorem dL_law_865 : decode cL_law 865 = .ok (.iconst 2, 1) := by decide +kernel
theorem dL_law_866 : decode cL_law 866 = .ok (.iadd, 1) := by decide +kernel
theorem dL_law_867 : decode cL_law 867 = .ok (.iaload, 1) := by decide +kernel
theorem dL_law_868 : decode cL_law 868 = .ok (.aload_n 0, 1) := by decide +kernel
theorem dL_law_869 : decode cL_law 869 = .ok (.iload_n 3, 1) := by decide +kernel
theorem dL_law_870 : decode cL_law 870 = .ok (.iconst 3, 1) := by decide +kernel
theorem dL_law_871 : decode cL_law 871 = .ok (.iadd, 1) := by decide +kernel
theorem dL_law_872 : decode cL_law 872 = .ok (.iaload, 1) := by decide +kernel
theorem dL_law_873 : decode cL_law 873 = .ok (.aload_n 0, 1) := by decide +kernel
theorem dL_law_874 : decode cL_law 874 = .ok (.iload_n 3, 1) := by decide +kernel
theorem dL_law_875 : decode cL_law 875 = .ok (.iconst 4, 1) := by decide +kernel
theorem dL_law_876 : decode cL_law 876 = .ok (.iadd, 1) := by decide +kernel
theorem dL_law_877 : decode cL_law 877 = .ok (.iaload, 1) := by decide +kernel
theorem dL_law_878 : decode cL_law 878 = .ok (.ifCond .eq 7, 3) := by decide +kernel
theorem dL_law_881 : decode cL_law 881 = .ok (.iconst 1, 1) := by decide +kernel
theorem dL_law_882 : decode cL_law 882 = .ok (.goto 4, 3) := by decide +kernel
theorem dL_law_885 : decode cL_law 885 = .ok (.iconst 0, 1) := by decide +kernel
theorem dL_law_886 : decode cL_law 886 = .ok (.invokevirtual 123, 3) := by decide +kernel
theorem dL_law_889 : decode cL_law 889 = .ok (.if_icmp .eq 151, 3) := by decide +kernel
theorem dL_law_892 : decode cL_law 892 = .ok (.iconst 0, 1) := by decide +kernel
theorem dL_law_893 : decode cL_law 893 = .ok (.ireturn, 1) := by decide +kernel
theorem dL_law_894 : decode cL_law 894 = .ok (.aload_n 1, 1) := by decide +kernel
theorem dL_law_895 : decode cL_law 895 = .ok (.aload_n 0, 1) := by decide +kernel
theorem dL_law_896 : decode cL_law 896 = .ok (.iload_n 3, 1) := by decide +kernel
theorem dL_law_897 : decode cL_law 897 = .ok (.iconst 1, 1) := by decide +kernel
theorem dL_law_898 : decode cL_law 898 = .ok (.iadd, 1) := by decide +kernel
theorem dL_law_899 : decode cL_law 899 = .ok (.iaload, 1) := by decide +kernel
theorem dL_law_900 : decode cL_law 900 = .ok (.i2l, 1) := by decide +kernel
theorem dL_law_901 : decode cL_law 901 = .ok (.bipush 32, 2) := by decide +kernel
theorem dL_law_903 : decode cL_law 903 = .ok (.lshl, 1) := by decide +kernel
theorem dL_law_904 : decode cL_law 904 = .ok (.aload_n 0, 1) := by decide +kernel
theorem dL_law_905 : decode cL_law 905 = .ok (.iload_n 3, 1) := by decide +kernel
theorem dL_law_906 : decode cL_law 906 = .ok (.iconst 2, 1) := by decide +kernel
theorem dL_law_907 : decode cL_law 907 = .ok (.iadd, 1) := by decide +kernel
theorem dL_law_908 : decode cL_law 908 = .ok (.iaload, 1) := by decide +kernel
theorem dL_law_909 : decode cL_law 909 = .ok (.i2l, 1) := by decide +kernel
theorem dL_law_910 : decode cL_law 910 = .ok (.ldc2_w 124, 3) := by decide +kernel
theorem dL_law_913 : decode cL_law 913 = .ok (.land, 1) := by decide +kernel
theorem dL_law_914 : decode cL_law 914 = .ok (.lor, 1) := by decide +kernel
theorem dL_law_915 : decode cL_law 915 = .ok (.invokevirtual 126, 3) := by decide +kernel
theorem dL_law_918 : decode cL_law 918 = .ok (.aload_n 2, 1) := by decide +kernel
theorem dL_law_919 : decode cL_law 919 = .ok (.aload_n 0, 1) := by decide +kernel
theorem dL_law_920 : decode cL_law 920 = .ok (.iload_n 3, 1) := by decide +kernel
theorem dL_law_921 : decode cL_law 921 = .ok (.iconst 1, 1) := by decide +kernel
theorem dL_law_922 : decode cL_law 922 = .ok (.iadd, 1) := by decide +kernel
theorem dL_law_923 : decode cL_law 923 = .ok (.iaload, 1) := by decide +kernel
theorem dL_law_924 : decode cL_law 924 = .ok (.i2l, 1) := by decide +kernel
theorem dL_law_925 : decode cL_law 925 = .ok (.bipush 32, 2) := by decide +kernel
theorem dL_law_927 : decode cL_law 927 = .ok (.lshl, 1) := by decide +kernel
theorem dL_law_928 : decode cL_law 928 = .ok (.aload_n 0, 1) := by decide +kernel
theorem dL_law_929 : decode cL_law 929 = .ok (.iload_n 3, 1) := by decide +kernel
theorem dL_law_930 : decode cL_law 930 = .ok (.iconst 2, 1) := by decide +kernel
theorem dL_law_931 : decode cL_law 931 = .ok (.iadd, 1) := by decide +kernel
theorem dL_law_932 : decode cL_law 932 = .ok (.iaload, 1) := by decide +kernel
theorem dL_law_933 : decode cL_law 933 = .ok (.i2l, 1) := by decide +kernel
theorem dL_law_934 : decode cL_law 934 = .ok (.ldc2_w 124, 3) := by decide +kernel
theorem dL_law_937 : decode cL_law 937 = .ok (.land, 1) := by decide +kernel
theorem dL_law_938 : decode cL_law 938 = .ok (.lor, 1) := by decide +kernel
theorem dL_law_939 : decode cL_law 939 = .ok (.invokevirtual 130, 3) := by decide +kernel
theorem dL_law_942 : decode cL_law 942 = .ok (.lcmp, 1) := by decide +kernel
theorem dL_law_943 : decode cL_law 943 = .ok (.ifCond .eq 97, 3) := by decide +kernel
theorem dL_law_946 : decode cL_law 946 = .ok (.iconst 0, 1) := by decide +kernel
theorem dL_law_947 : decode cL_law 947 = .ok (.ireturn, 1) := by decide +kernel
theorem dL_law_948 : decode cL_law 948 = .ok (.aload_n 1, 1) := by decide +kernel
theorem dL_law_949 : decode cL_law 949 = .ok (.aload_n 0, 1) := by decide +kernel
theorem dL_law_950 : decode cL_law 950 = .ok (.iload_n 3, 1) := by decide +kernel
theorem dL_law_951 : decode cL_law 951 = .ok (.iconst 1, 1) := by decide +kernel
theorem dL_law_952 : decode cL_law 952 = .ok (.iadd, 1) := by decide +kernel
theorem dL_law_953 : decode cL_law 953 = .ok (.iaload, 1) := by decide +kernel
theorem dL_law_954 : decode cL_law 954 = .ok (.invokevirtual 131, 3) := by decide +kernel
theorem dL_law_957 : decode cL_law 957 = .ok (.aload_n 2, 1) := by decide +kernel
theorem dL_law_958 : decode cL_law 958 = .ok (.aload_n 0, 1) := by decide +kernel
theorem dL_law_959 : decode cL_law 959 = .ok (.iload_n 3, 1) := by decide +kernel
theorem dL_law_960 : decode cL_law 960 = .ok (.iconst 1, 1) := by decide +kernel
theorem dL_law_961 : decode cL_law 961 = .ok (.iadd, 1) := by decide +kernel
theorem dL_law_962 : decode cL_law 962 = .ok (.iaload, 1) := by decide +kernel
theorem dL_law_963 : decode cL_law 963 = .ok (.invokevirtual 134, 3) := by decide +kernel
theorem dL_law_966 : decode cL_law 966 = .ok (.if_icmp .eq 74, 3) := by decide +kernel
theorem dL_law_969 : decode cL_law 969 = .ok (.iconst 0, 1) := by decide +kernel
theorem dL_law_970 : decode cL_law 970 = .ok (.ireturn, 1) := by decide +kernel
theorem dL_law_971 : decode cL_law 971 = .ok (.aload_n 1, 1) := by decide +kernel
theorem dL_law_972 : decode cL_law 972 = .ok (.aload_n 0, 1) := by decide +kernel
theorem dL_law_973 : decode cL_law 973 = .ok (.iload_n 3, 1) := by decide +kernel
theorem dL_law_974 : decode cL_law 974 = .ok (.iconst 1, 1) := by decide +kernel
theorem dL_law_975 : decode cL_law 975 = .ok (.iadd, 1) := by decide +kernel
theorem dL_law_976 : decode cL_law 976 = .ok (.iaload, 1) := by decide +kernel
theorem dL_law_977 : decode cL_law 977 = .ok (.invokevirtual 135, 3) := by decide +kernel
theorem dL_law_980 : decode cL_law 980 = .ok (.aload_n 2, 1) := by decide +kernel
theorem dL_law_981 : decode cL_law 981 = .ok (.aload_n 0, 1) := by decide +kernel
theorem dL_law_982 : decode cL_law 982 = .ok (.iload_n 3, 1) := by decide +kernel
theorem dL_law_983 : decode cL_law 983 = .ok (.iconst 1, 1) := by decide +kernel
theorem dL_law_984 : decode cL_law 984 = .ok (.iadd, 1) := by decide +kernel
theorem dL_law_985 : decode cL_law 985 = .ok (.iaload, 1) := by decide +kernel
theorem dL_law_986 : decode cL_law 986 = .ok (.invokevirtual 138, 3) := by decide +kernel
theorem dL_law_989 : decode cL_law 989 = .ok (.if_icmp .eq 51, 3) := by decide +kernel
theorem dL_law_992 : decode cL_law 992 = .ok (.iconst 0, 1) := by decide +kernel
theorem dL_law_993 : decode cL_law 993 = .ok (.ireturn, 1) := by decide +kernel
theorem dL_law_994 : decode cL_law 994 = .ok (.aload_n 1, 1) := by decide +kernel
theorem dL_law_995 : decode cL_law 995 = .ok (.aload_n 0, 1) := by decide +kernel
theorem dL_law_996 : decode cL_law 996 = .ok (.iload_n 3, 1) := by decide +kernel
theorem dL_law_997 : decode cL_law 997 = .ok (.iconst 1, 1) := by decide +kernel
theorem dL_law_998 : decode cL_law 998 = .ok (.iadd, 1) := by decide +kernel
theorem dL_law_999 : decode cL_law 999 = .ok (.iaload, 1) := by decide +kernel
theorem dL_law_1000 : decode cL_law 1000 = .ok (.invokevirtual 139, 3) := by decide +kernel
theorem dL_law_1003 : decode cL_law 1003 = .ok (.aload_n 2, 1) := by decide +kernel
theorem dL_law_1004 : decode cL_law 1004 = .ok (.aload_n 0, 1) := by decide +kernel
theorem dL_law_1005 : decode cL_law 1005 = .ok (.iload_n 3, 1) := by decide +kernel
theorem dL_law_1006 : decode cL_law 1006 = .ok (.iconst 1, 1) := by decide +kernel
theorem dL_law_1007 : decode cL_law 1007 = .ok (.iadd, 1) := by decide +kernel
theorem dL_law_1008 : decode cL_law 1008 = .ok (.iaload, 1) := by decide +kernel
theorem dL_law_1009 : decode cL_law 1009 = .ok (.invokevirtual 142, 3) := by decide +kernel
theorem dL_law_1012 : decode cL_law 1012 = .ok (.if_icmp .eq 28, 3) := by decide +kernel
theorem dL_law_1015 : decode cL_law 1015 = .ok (.iconst 0, 1) := by decide +kernel
theorem dL_law_1016 : decode cL_law 1016 = .ok (.ireturn, 1) := by decide +kernel
theorem dL_law_1017 : decode cL_law 1017 = .ok (.aload_n 1, 1) := by decide +kernel
theorem dL_law_1018 : decode cL_law 1018 = .ok (.aload_n 0, 1) := by decide +kernel
theorem dL_law_1019 : decode cL_law 1019 = .ok (.iload_n 3, 1) := by decide +kernel
theorem dL_law_1020 : decode cL_law 1020 = .ok (.iconst 1, 1) := by decide +kernel
theorem dL_law_1021 : decode cL_law 1021 = .ok (.iadd, 1) := by decide +kernel
theorem dL_law_1022 : decode cL_law 1022 = .ok (.iaload, 1) := by decide +kernel
theorem dL_law_1023 : decode cL_law 1023 = .ok (.invokevirtual 143, 3) := by decide +kernel
theorem dL_law_1026 : decode cL_law 1026 = .ok (.aload_n 2, 1) := by decide +kernel
theorem dL_law_1027 : decode cL_law 1027 = .ok (.aload_n 0, 1) := by decide +kernel
theorem dL_law_1028 : decode cL_law 1028 = .ok (.iload_n 3, 1) := by decide +kernel
theorem dL_law_1029 : decode cL_law 1029 = .ok (.iconst 1, 1) := by decide +kernel
theorem dL_law_1030 : decode cL_law 1030 = .ok (.iadd, 1) := by decide +kernel
theorem dL_law_1031 : decode cL_law 1031 = .ok (.iaload, 1) := by decide +kernel
theorem dL_law_1032 : decode cL_law 1032 = .ok (.invokevirtual 146, 3) := by decide +kernel
theorem dL_law_1035 : decode cL_law 1035 = .ok (.if_icmp .eq 5, 3) := by decide +kernel
theorem dL_law_1038 : decode cL_law 1038 = .ok (.iconst 0, 1) := by decide +kernel
theorem dL_law_1039 : decode cL_law 1039 = .ok (.ireturn, 1) := by decide +kernel
theorem dL_law_1040 : decode cL_law 1040 = .ok (.iinc 3 5, 3) := by decide +kernel
theorem dL_law_1043 : decode cL_law 1043 = .ok (.goto (-1025), 3) := by decide +kernel
theorem dL_law_1046 : decode cL_law 1046 = .ok (.iconst 1, 1) := by decide +kernel
theorem dL_law_1047 : decode cL_law 1047 = .ok (.ireturn, 1) := by decide +kernel
