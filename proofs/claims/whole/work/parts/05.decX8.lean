theorem dX8_init_0 : decode cX8_init 0 = .ok (.aload_n 0, 1) := by decide +kernel
theorem dX8_init_1 : decode cX8_init 1 = .ok (.invokespecial 1, 3) := by decide +kernel
theorem dX8_init_4 : decode cX8_init 4 = .ok (.aload_n 0, 1) := by decide +kernel
theorem dX8_init_5 : decode cX8_init 5 = .ok (.bipush 12, 2) := by decide +kernel
theorem dX8_init_7 : decode cX8_init 7 = .ok (.newarray .int, 2) := by decide +kernel
theorem dX8_init_9 : decode cX8_init 9 = .ok (.putfield 7, 3) := by decide +kernel
theorem dX8_init_12 : decode cX8_init 12 = .ok (.aload_n 0, 1) := by decide +kernel
theorem dX8_init_13 : decode cX8_init 13 = .ok (.iconst 4, 1) := by decide +kernel
theorem dX8_init_14 : decode cX8_init 14 = .ok (.newarray .int, 2) := by decide +kernel
theorem dX8_init_16 : decode cX8_init 16 = .ok (.putfield 13, 3) := by decide +kernel
theorem dX8_init_19 : decode cX8_init 19 = .ok (.aload_n 0, 1) := by decide +kernel
theorem dX8_init_20 : decode cX8_init 20 = .ok (.iconst 4, 1) := by decide +kernel
theorem dX8_init_21 : decode cX8_init 21 = .ok (.newarray .int, 2) := by decide +kernel
theorem dX8_init_23 : decode cX8_init 23 = .ok (.putfield 16, 3) := by decide +kernel
theorem dX8_init_26 : decode cX8_init 26 = .ok (.aload_n 0, 1) := by decide +kernel
theorem dX8_init_27 : decode cX8_init 27 = .ok (.iconst 4, 1) := by decide +kernel
theorem dX8_init_28 : decode cX8_init 28 = .ok (.newarray .int, 2) := by decide +kernel
theorem dX8_init_30 : decode cX8_init 30 = .ok (.putfield 19, 3) := by decide +kernel
theorem dX8_init_33 : decode cX8_init 33 = .ok (.aload_n 0, 1) := by decide +kernel
theorem dX8_init_34 : decode cX8_init 34 = .ok (.iconst 4, 1) := by decide +kernel
theorem dX8_init_35 : decode cX8_init 35 = .ok (.newarray .int, 2) := by decide +kernel
theorem dX8_init_37 : decode cX8_init 37 = .ok (.putfield 22, 3) := by decide +kernel
theorem dX8_init_40 : decode cX8_init 40 = .ok (.aload_n 0, 1) := by decide +kernel
theorem dX8_init_41 : decode cX8_init 41 = .ok (.iconst 4, 1) := by decide +kernel
theorem dX8_init_42 : decode cX8_init 42 = .ok (.newarray .int, 2) := by decide +kernel
theorem dX8_init_44 : decode cX8_init 44 = .ok (.putfield 25, 3) := by decide +kernel
theorem dX8_init_47 : decode cX8_init 47 = .ok (.aload_n 0, 1) := by decide +kernel
theorem dX8_init_48 : decode cX8_init 48 = .ok (.iconst 4, 1) := by decide +kernel
theorem dX8_init_49 : decode cX8_init 49 = .ok (.newarray .int, 2) := by decide +kernel
theorem dX8_init_51 : decode cX8_init 51 = .ok (.putfield 28, 3) := by decide +kernel
theorem dX8_init_54 : decode cX8_init 54 = .ok (.aload_n 0, 1) := by decide +kernel
theorem dX8_init_55 : decode cX8_init 55 = .ok (.iconst 4, 1) := by decide +kernel
theorem dX8_init_56 : decode cX8_init 56 = .ok (.newarray .int, 2) := by decide +kernel
theorem dX8_init_58 : decode cX8_init 58 = .ok (.putfield 31, 3) := by decide +kernel
theorem dX8_init_61 : decode cX8_init 61 = .ok (.aload_n 0, 1) := by decide +kernel
theorem dX8_init_62 : decode cX8_init 62 = .ok (.bipush 72, 2) := by decide +kernel
theorem dX8_init_64 : decode cX8_init 64 = .ok (.newarray .int, 2) := by decide +kernel
theorem dX8_init_66 : decode cX8_init 66 = .ok (.putfield 34, 3) := by decide +kernel
theorem dX8_init_69 : decode cX8_init 69 = .ok (.aload_n 0, 1) := by decide +kernel
theorem dX8_init_70 : decode cX8_init 70 = .ok (.bipush 64, 2) := by decide +kernel
theorem dX8_init_72 : decode cX8_init 72 = .ok (.newarray .int, 2) := by decide +kernel
theorem dX8_init_74 : decode cX8_init 74 = .ok (.putfield 37, 3) := by decide +kernel
theorem dX8_init_77 : decode cX8_init 77 = .ok (.aload_n 0, 1) := by decide +kernel
theorem dX8_init_78 : decode cX8_init 78 = .ok (.bipush 12, 2) := by decide +kernel
theorem dX8_init_80 : decode cX8_init 80 = .ok (.newarray .int, 2) := by decide +kernel
theorem dX8_init_82 : decode cX8_init 82 = .ok (.putfield 40, 3) := by decide +kernel
theorem dX8_init_85 : decode cX8_init 85 = .ok (.aload_n 0, 1) := by decide +kernel
theorem dX8_init_86 : decode cX8_init 86 = .ok (.bipush 12, 2) := by decide +kernel
theorem dX8_init_88 : decode cX8_init 88 = .ok (.newarray .int, 2) := by decide +kernel
theorem dX8_init_90 : decode cX8_init 90 = .ok (.putfield 43, 3) := by decide +kernel
theorem dX8_init_93 : decode cX8_init 93 = .ok (.aload_n 0, 1) := by decide +kernel
theorem dX8_init_94 : decode cX8_init 94 = .ok (.bipush 16, 2) := by decide +kernel
theorem dX8_init_96 : decode cX8_init 96 = .ok (.newarray .int, 2) := by decide +kernel
theorem dX8_init_98 : decode cX8_init 98 = .ok (.putfield 46, 3) := by decide +kernel
theorem dX8_init_101 : decode cX8_init 101 = .ok (.aload_n 0, 1) := by decide +kernel
theorem dX8_init_102 : decode cX8_init 102 = .ok (.sipush 288, 3) := by decide +kernel
theorem dX8_init_105 : decode cX8_init 105 = .ok (.newarray .int, 2) := by decide +kernel
theorem dX8_init_107 : decode cX8_init 107 = .ok (.putfield 49, 3) := by decide +kernel
theorem dX8_init_110 : decode cX8_init 110 = .ok (.aload_n 0, 1) := by decide +kernel
theorem dX8_init_111 : decode cX8_init 111 = .ok (.bipush 16, 2) := by decide +kernel
theorem dX8_init_113 : decode cX8_init 113 = .ok (.newarray .int, 2) := by decide +kernel
theorem dX8_init_115 : decode cX8_init 115 = .ok (.putfield 52, 3) := by decide +kernel
theorem dX8_init_118 : decode cX8_init 118 = .ok (.aload_n 0, 1) := by decide +kernel
theorem dX8_init_119 : decode cX8_init 119 = .ok (.bipush 16, 2) := by decide +kernel
theorem dX8_init_121 : decode cX8_init 121 = .ok (.newarray .int, 2) := by decide +kernel
theorem dX8_init_123 : decode cX8_init 123 = .ok (.putfield 55, 3) := by decide +kernel
theorem dX8_init_126 : decode cX8_init 126 = .ok (.aload_n 0, 1) := by decide +kernel
theorem dX8_init_127 : decode cX8_init 127 = .ok (.bipush 16, 2) := by decide +kernel
theorem dX8_init_129 : decode cX8_init 129 = .ok (.newarray .int, 2) := by decide +kernel
theorem dX8_init_131 : decode cX8_init 131 = .ok (.putfield 58, 3) := by decide +kernel
theorem dX8_init_134 : decode cX8_init 134 = .ok (.aload_n 0, 1) := by decide +kernel
theorem dX8_init_135 : decode cX8_init 135 = .ok (.bipush 6, 2) := by decide +kernel
theorem dX8_init_137 : decode cX8_init 137 = .ok (.newarray .int, 2) := by decide +kernel
theorem dX8_init_139 : decode cX8_init 139 = .ok (.putfield 61, 3) := by decide +kernel
theorem dX8_init_142 : decode cX8_init 142 = .ok (.aload_n 0, 1) := by decide +kernel
theorem dX8_init_143 : decode cX8_init 143 = .ok (.bipush 64, 2) := by decide +kernel
theorem dX8_init_145 : decode cX8_init 145 = .ok (.newarray .int, 2) := by decide +kernel
theorem dX8_init_147 : decode cX8_init 147 = .ok (.putfield 64, 3) := by decide +kernel
theorem dX8_init_150 : decode cX8_init 150 = .ok (.aload_n 0, 1) := by decide +kernel
theorem dX8_init_151 : decode cX8_init 151 = .ok (.iconst 2, 1) := by decide +kernel
theorem dX8_init_152 : decode cX8_init 152 = .ok (.newarray .boolean, 2) := by decide +kernel
theorem dX8_init_154 : decode cX8_init 154 = .ok (.putfield 67, 3) := by decide +kernel
theorem dX8_init_157 : decode cX8_init 157 = .ok (.aload_n 0, 1) := by decide +kernel
theorem dX8_init_158 : decode cX8_init 158 = .ok (.bipush 36, 2) := by decide +kernel
theorem dX8_init_160 : decode cX8_init 160 = .ok (.newarray .int, 2) := by decide +kernel
theorem dX8_init_162 : decode cX8_init 162 = .ok (.putfield 71, 3) := by decide +kernel
theorem dX8_init_165 : decode cX8_init 165 = .ok (.aload_n 0, 1) := by decide +kernel
theorem dX8_init_166 : decode cX8_init 166 = .ok (.iconst 0, 1) := by decide +kernel
theorem dX8_init_167 : decode cX8_init 167 = .ok (.putfield 74, 3) := by decide +kernel
theorem dX8_init_170 : decode cX8_init 170 = .ok (.return_, 1) := by decide +kernel
theorem dX8_in_0 : decode cX8_in 0 = .ok (.lload_n 0, 1) := by decide +kernel
theorem dX8_in_1 : decode cX8_in 1 = .ok (.lload_n 2, 1) := by decide +kernel
theorem dX8_in_2 : decode cX8_in 2 = .ok (.lcmp, 1) := by decide +kernel
theorem dX8_in_3 : decode cX8_in 3 = .ok (.ifCond .lt 14, 3) := by decide +kernel
theorem dX8_in_6 : decode cX8_in 6 = .ok (.lload_n 0, 1) := by decide +kernel
theorem dX8_in_7 : decode cX8_in 7 = .ok (.lload 4, 2) := by decide +kernel
theorem dX8_in_9 : decode cX8_in 9 = .ok (.lcmp, 1) := by decide +kernel
theorem dX8_in_10 : decode cX8_in 10 = .ok (.ifCond .gt 7, 3) := by decide +kernel
theorem dX8_in_13 : decode cX8_in 13 = .ok (.iconst 1, 1) := by decide +kernel
theorem dX8_in_14 : decode cX8_in 14 = .ok (.goto 4, 3) := by decide +kernel
theorem dX8_in_17 : decode cX8_in 17 = .ok (.iconst 0, 1) := by decide +kernel
theorem dX8_in_18 : decode cX8_in 18 = .ok (.ireturn, 1) := by decide +kernel
theorem dX8_has_0 : decode cX8_has 0 = .ok (.iload_n 0, 1) := by decide +kernel
theorem dX8_has_1 : decode cX8_has 1 = .ok (.iload_n 1, 1) := by decide +kernel
theorem dX8_has_2 : decode cX8_has 2 = .ok (.ishr, 1) := by decide +kernel
theorem dX8_has_3 : decode cX8_has 3 = .ok (.iconst 1, 1) := by decide +kernel
theorem dX8_has_4 : decode cX8_has 4 = .ok (.iand, 1) := by decide +kernel
theorem dX8_has_5 : decode cX8_has 5 = .ok (.iconst 1, 1) := by decide +kernel
theorem dX8_has_6 : decode cX8_has 6 = .ok (.if_icmp .ne 7, 3) := by decide +kernel
theorem dX8_has_9 : decode cX8_has 9 = .ok (.iconst 1, 1) := by decide +kernel
theorem dX8_has_10 : decode cX8_has 10 = .ok (.goto 4, 3) := by decide +kernel
theorem dX8_has_13 : decode cX8_has 13 = .ok (.iconst 0, 1) := by decide +kernel
theorem dX8_has_14 : decode cX8_has 14 = .ok (.ireturn, 1) := by decide +kernel
theorem dX8_write_0 : decode cX8_write 0 = .ok (.iload_n 1, 1) := by decide +kernel
theorem dX8_write_1 : decode cX8_write 1 = .ok (.i2l, 1) := by decide +kernel
theorem dX8_write_2 : decode cX8_write 2 = .ok (.lconst 0, 1) := by decide +kernel
theorem dX8_write_3 : decode cX8_write 3 = .ok (.ldc2_w 78, 3) := by decide +kernel
theorem dX8_write_6 : decode cX8_write 6 = .ok (.invokestatic 80, 3) := by decide +kernel
theorem dX8_write_9 : decode cX8_write 9 = .ok (.ifCond .ne 6, 3) := by decide +kernel
theorem dX8_write_12 : decode cX8_write 12 = .ok (.bipush (-2), 2) := by decide +kernel
theorem dX8_write_14 : decode cX8_write 14 = .ok (.ireturn, 1) := by decide +kernel
theorem dX8_write_15 : decode cX8_write 15 = .ok (.aload_n 0, 1) := by decide +kernel
theorem dX8_write_16 : decode cX8_write 16 = .ok (.getfield 84, 3) := by decide +kernel
theorem dX8_write_19 : decode cX8_write 19 = .ok (.bipush 64, 2) := by decide +kernel
theorem dX8_write_21 : decode cX8_write 21 = .ok (.if_icmp .ne 6, 3) := by decide +kernel
theorem dX8_write_24 : decode cX8_write 24 = .ok (.bipush (-4), 2) := by decide +kernel
theorem dX8_write_26 : decode cX8_write 26 = .ok (.ireturn, 1) := by decide +kernel
theorem dX8_write_27 : decode cX8_write 27 = .ok (.aload_n 0, 1) := by decide +kernel
theorem dX8_write_28 : decode cX8_write 28 = .ok (.getfield 37, 3) := by decide +kernel
theorem dX8_write_31 : decode cX8_write 31 = .ok (.aload_n 0, 1) := by decide +kernel
theorem dX8_write_32 : decode cX8_write 32 = .ok (.getfield 84, 3) := by decide +kernel
theorem dX8_write_35 : decode cX8_write 35 = .ok (.iload_n 1, 1) := by decide +kernel
theorem dX8_write_36 : decode cX8_write 36 = .ok (.iastore, 1) := by decide +kernel
theorem dX8_write_37 : decode cX8_write 37 = .ok (.aload_n 0, 1) := by decide +kernel
theorem dX8_write_38 : decode cX8_write 38 = .ok (.dup, 1) := by decide +kernel
theorem dX8_write_39 : decode cX8_write 39 = .ok (.getfield 84, 3) := by decide +kernel
theorem dX8_write_42 : decode cX8_write 42 = .ok (.iconst 1, 1) := by decide +kernel
theorem dX8_write_43 : decode cX8_write 43 = .ok (.iadd, 1) := by decide +kernel
theorem dX8_write_44 : decode cX8_write 44 = .ok (.putfield 84, 3) := by decide +kernel
theorem dX8_write_47 : decode cX8_write 47 = .ok (.aload_n 0, 1) := by decide +kernel
theorem dX8_write_48 : decode cX8_write 48 = .ok (.getfield 84, 3) := by decide +kernel
theorem dX8_write_51 : decode cX8_write 51 = .ok (.ireturn, 1) := by decide +kernel
theorem dX8_wipe_0 : decode cX8_wipe 0 = .ok (.aload_n 0, 1) := by decide +kernel
theorem dX8_wipe_1 : decode cX8_wipe 1 = .ok (.getfield 84, 3) := by decide +kernel
theorem dX8_wipe_4 : decode cX8_wipe 4 = .ok (.istore_n 1, 1) := by decide +kernel
theorem dX8_wipe_5 : decode cX8_wipe 5 = .ok (.aload_n 0, 1) := by decide +kernel
theorem dX8_wipe_6 : decode cX8_wipe 6 = .ok (.iconst 0, 1) := by decide +kernel
theorem dX8_wipe_7 : decode cX8_wipe 7 = .ok (.putfield 84, 3) := by decide +kernel
theorem dX8_wipe_10 : decode cX8_wipe 10 = .ok (.iload_n 1, 1) := by decide +kernel
theorem dX8_wipe_11 : decode cX8_wipe 11 = .ok (.ireturn, 1) := by decide +kernel
theorem dX8_figure_0 : decode cX8_figure 0 = .ok (.aload_n 0, 1) := by decide +kernel
theorem dX8_figure_1 : decode cX8_figure 1 = .ok (.getfield 87, 3) := by decide +kernel
theorem dX8_figure_4 : decode cX8_figure 4 = .ok (.bipush (-9), 2) := by decide +kernel
theorem dX8_figure_6 : decode cX8_figure 6 = .ok (.if_icmp .ne 28, 3) := by decide +kernel
theorem dX8_figure_9 : decode cX8_figure 9 = .ok (.aload_n 0, 1) := by decide +kernel
theorem dX8_figure_10 : decode cX8_figure 10 = .ok (.getfield 90, 3) := by decide +kernel
theorem dX8_figure_13 : decode cX8_figure 13 = .ok (.aload_n 0, 1) := by decide +kernel
theorem dX8_figure_14 : decode cX8_figure 14 = .ok (.getfield 84, 3) := by decide +kernel
theorem dX8_figure_17 : decode cX8_figure 17 = .ok (.if_icmp .ge 17, 3) := by decide +kernel
theorem dX8_figure_20 : decode cX8_figure 20 = .ok (.aload_n 0, 1) := by decide +kernel
theorem dX8_figure_21 : decode cX8_figure 21 = .ok (.getfield 37, 3) := by decide +kernel
theorem dX8_figure_24 : decode cX8_figure 24 = .ok (.aload_n 0, 1) := by decide +kernel
theorem dX8_figure_25 : decode cX8_figure 25 = .ok (.getfield 90, 3) := by decide +kernel
theorem dX8_figure_28 : decode cX8_figure 28 = .ok (.iaload, 1) := by decide +kernel
theorem dX8_figure_29 : decode cX8_figure 29 = .ok (.iload_n 3, 1) := by decide +kernel
theorem dX8_figure_30 : decode cX8_figure 30 = .ok (.isub, 1) := by decide +kernel
theorem dX8_figure_31 : decode cX8_figure 31 = .ok (.goto 5, 3) := by decide +kernel
theorem dX8_figure_34 : decode cX8_figure 34 = .ok (.bipush (-9), 2) := by decide +kernel
theorem dX8_figure_36 : decode cX8_figure 36 = .ok (.istore 4, 2) := by decide +kernel
theorem dX8_figure_38 : decode cX8_figure 38 = .ok (.iload 4, 2) := by decide +kernel
theorem dX8_figure_40 : decode cX8_figure 40 = .ok (.i2l, 1) := by decide +kernel
theorem dX8_figure_41 : decode cX8_figure 41 = .ok (.iload_n 1, 1) := by decide +kernel
theorem dX8_figure_42 : decode cX8_figure 42 = .ok (.i2l, 1) := by decide +kernel
theorem dX8_figure_43 : decode cX8_figure 43 = .ok (.iload_n 2, 1) := by decide +kernel
theorem dX8_figure_44 : decode cX8_figure 44 = .ok (.i2l, 1) := by decide +kernel
theorem dX8_figure_45 : decode cX8_figure 45 = .ok (.invokestatic 80, 3) := by decide +kernel
theorem dX8_figure_48 : decode cX8_figure 48 = .ok (.ifCond .ne 29, 3) := by decide +kernel
theorem dX8_figure_51 : decode cX8_figure 51 = .ok (.aload_n 0, 1) := by decide +kernel
theorem dX8_figure_52 : decode cX8_figure 52 = .ok (.aload_n 0, 1) := by decide +kernel
theorem dX8_figure_53 : decode cX8_figure 53 = .ok (.getfield 87, 3) := by decide +kernel
theorem dX8_figure_56 : decode cX8_figure 56 = .ok (.bipush (-9), 2) := by decide +kernel
theorem dX8_figure_58 : decode cX8_figure 58 = .ok (.if_icmp .ne 10, 3) := by decide +kernel
theorem dX8_figure_61 : decode cX8_figure 61 = .ok (.aload_n 0, 1) := by decide +kernel
theorem dX8_figure_62 : decode cX8_figure 62 = .ok (.getfield 90, 3) := by decide +kernel
theorem dX8_figure_65 : decode cX8_figure 65 = .ok (.goto 7, 3) := by decide +kernel
theorem dX8_figure_68 : decode cX8_figure 68 = .ok (.aload_n 0, 1) := by decide +kernel
theorem dX8_figure_69 : decode cX8_figure 69 = .ok (.getfield 87, 3) := by decide +kernel
theorem dX8_figure_72 : decode cX8_figure 72 = .ok (.putfield 87, 3) := by decide +kernel
theorem dX8_figure_75 : decode cX8_figure 75 = .ok (.iload_n 1, 1) := by decide +kernel
theorem dX8_figure_76 : decode cX8_figure 76 = .ok (.ireturn, 1) := by decide +kernel
theorem dX8_figure_77 : decode cX8_figure 77 = .ok (.aload_n 0, 1) := by decide +kernel
theorem dX8_figure_78 : decode cX8_figure 78 = .ok (.dup, 1) := by decide +kernel
theorem dX8_figure_79 : decode cX8_figure 79 = .ok (.getfield 90, 3) := by decide +kernel
theorem dX8_figure_82 : decode cX8_figure 82 = .ok (.iconst 1, 1) := by decide +kernel
theorem dX8_figure_83 : decode cX8_figure 83 = .ok (.iadd, 1) := by decide +kernel
theorem dX8_figure_84 : decode cX8_figure 84 = .ok (.putfield 90, 3) := by decide +kernel
theorem dX8_figure_87 : decode cX8_figure 87 = .ok (.iload 4, 2) := by decide +kernel
theorem dX8_figure_89 : decode cX8_figure 89 = .ok (.ireturn, 1) := by decide +kernel
theorem dX8_giftOf_0 : decode cX8_giftOf 0 = .ok (.iload_n 0, 1) := by decide +kernel
theorem dX8_giftOf_1 : decode cX8_giftOf 1 = .ok (.bipush 45, 2) := by decide +kernel
theorem dX8_giftOf_3 : decode cX8_giftOf 3 = .ok (.if_icmp .ne 7, 3) := by decide +kernel
theorem dX8_giftOf_6 : decode cX8_giftOf 6 = .ok (.iconst 4, 1) := by decide +kernel
theorem dX8_giftOf_7 : decode cX8_giftOf 7 = .ok (.goto 26, 3) := by decide +kernel
theorem dX8_giftOf_10 : decode cX8_giftOf 10 = .ok (.iload_n 0, 1) := by decide +kernel
theorem dX8_giftOf_11 : decode cX8_giftOf 11 = .ok (.i2l, 1) := by decide +kernel
theorem dX8_giftOf_12 : decode cX8_giftOf 12 = .ok (.ldc2_w 93, 3) := by decide +kernel
theorem dX8_giftOf_15 : decode cX8_giftOf 15 = .ok (.ldc2_w 95, 3) := by decide +kernel
theorem dX8_giftOf_18 : decode cX8_giftOf 18 = .ok (.invokestatic 80, 3) := by decide +kernel
theorem dX8_giftOf_21 : decode cX8_giftOf 21 = .ok (.ifCond .eq 10, 3) := by decide +kernel
theorem dX8_giftOf_24 : decode cX8_giftOf 24 = .ok (.iload_n 0, 1) := by decide +kernel
theorem dX8_giftOf_25 : decode cX8_giftOf 25 = .ok (.bipush 97, 2) := by decide +kernel
theorem dX8_giftOf_27 : decode cX8_giftOf 27 = .ok (.isub, 1) := by decide +kernel
theorem dX8_giftOf_28 : decode cX8_giftOf 28 = .ok (.goto 5, 3) := by decide +kernel
theorem dX8_giftOf_31 : decode cX8_giftOf 31 = .ok (.bipush (-9), 2) := by decide +kernel
theorem dX8_giftOf_33 : decode cX8_giftOf 33 = .ok (.ireturn, 1) := by decide +kernel
theorem dX8_readText_0 : decode cX8_readText 0 = .ok (.aload_n 0, 1) := by decide +kernel
theorem dX8_readText_1 : decode cX8_readText 1 = .ok (.iconst 0, 1) := by decide +kernel
theorem dX8_readText_2 : decode cX8_readText 2 = .ok (.putfield 90, 3) := by decide +kernel
theorem dX8_readText_5 : decode cX8_readText 5 = .ok (.aload_n 0, 1) := by decide +kernel
theorem dX8_readText_6 : decode cX8_readText 6 = .ok (.bipush (-9), 2) := by decide +kernel
theorem dX8_readText_8 : decode cX8_readText 8 = .ok (.putfield 87, 3) := by decide +kernel
theorem dX8_readText_11 : decode cX8_readText 11 = .ok (.aload_n 0, 1) := by decide +kernel
theorem dX8_readText_12 : decode cX8_readText 12 = .ok (.iconst 0, 1) := by decide +kernel
theorem dX8_readText_13 : decode cX8_readText 13 = .ok (.putfield 97, 3) := by decide +kernel
theorem dX8_readText_16 : decode cX8_readText 16 = .ok (.aload_n 0, 1) := by decide +kernel
theorem dX8_readText_17 : decode cX8_readText 17 = .ok (.iconst 0, 1) := by decide +kernel
theorem dX8_readText_18 : decode cX8_readText 18 = .ok (.putfield 100, 3) := by decide +kernel
theorem dX8_readText_21 : decode cX8_readText 21 = .ok (.aload_n 0, 1) := by decide +kernel
theorem dX8_readText_22 : decode cX8_readText 22 = .ok (.iconst 0, 1) := by decide +kernel
theorem dX8_readText_23 : decode cX8_readText 23 = .ok (.putfield 103, 3) := by decide +kernel
theorem dX8_readText_26 : decode cX8_readText 26 = .ok (.aload_n 0, 1) := by decide +kernel
theorem dX8_readText_27 : decode cX8_readText 27 = .ok (.getfield 84, 3) := by decide +kernel
theorem dX8_readText_30 : decode cX8_readText 30 = .ok (.ifCond .eq 14, 3) := by decide +kernel
theorem dX8_readText_33 : decode cX8_readText 33 = .ok (.aload_n 0, 1) := by decide +kernel
theorem dX8_readText_34 : decode cX8_readText 34 = .ok (.getfield 37, 3) := by decide +kernel
theorem dX8_readText_37 : decode cX8_readText 37 = .ok (.iconst 0, 1) := by decide +kernel
theorem dX8_readText_38 : decode cX8_readText 38 = .ok (.iaload, 1) := by decide +kernel
theorem dX8_readText_39 : decode cX8_readText 39 = .ok (.bipush 69, 2) := by decide +kernel
theorem dX8_readText_41 : decode cX8_readText 41 = .ok (.if_icmp .eq 5, 3) := by decide +kernel
theorem dX8_readText_44 : decode cX8_readText 44 = .ok (.iconst 0, 1) := by decide +kernel
theorem dX8_readText_45 : decode cX8_readText 45 = .ok (.ireturn, 1) := by decide +kernel
theorem dX8_readText_46 : decode cX8_readText 46 = .ok (.aload_n 0, 1) := by decide +kernel
theorem dX8_readText_47 : decode cX8_readText 47 = .ok (.iconst 1, 1) := by decide +kernel
theorem dX8_readText_48 : decode cX8_readText 48 = .ok (.putfield 90, 3) := by decide +kernel
theorem dX8_readText_51 : decode cX8_readText 51 = .ok (.aload_n 0, 1) := by decide +kernel
theorem dX8_readText_52 : decode cX8_readText 52 = .ok (.getfield 90, 3) := by decide +kernel
theorem dX8_readText_55 : decode cX8_readText 55 = .ok (.aload_n 0, 1) := by decide +kernel
theorem dX8_readText_56 : decode cX8_readText 56 = .ok (.getfield 84, 3) := by decide +kernel
theorem dX8_readText_59 : decode cX8_readText 59 = .ok (.if_icmp .ge 73, 3) := by decide +kernel
theorem dX8_readText_62 : decode cX8_readText 62 = .ok (.aload_n 0, 1) := by decide +kernel
theorem dX8_readText_63 : decode cX8_readText 63 = .ok (.getfield 97, 3) := by decide +kernel
theorem dX8_readText_66 : decode cX8_readText 66 = .ok (.bipush 12, 2) := by decide +kernel
theorem dX8_readText_68 : decode cX8_readText 68 = .ok (.if_icmp .ge 64, 3) := by decide +kernel
theorem dX8_readText_71 : decode cX8_readText 71 = .ok (.aload_n 0, 1) := by decide +kernel
theorem dX8_readText_72 : decode cX8_readText 72 = .ok (.getfield 37, 3) := by decide +kernel
theorem dX8_readText_75 : decode cX8_readText 75 = .ok (.aload_n 0, 1) := by decide +kernel
theorem dX8_readText_76 : decode cX8_readText 76 = .ok (.getfield 90, 3) := by decide +kernel
theorem dX8_readText_79 : decode cX8_readText 79 = .ok (.iaload, 1) := by decide +kernel
theorem dX8_readText_80 : decode cX8_readText 80 = .ok (.invokestatic 106, 3) := by decide +kernel
theorem dX8_readText_83 : decode cX8_readText 83 = .ok (.bipush (-9), 2) := by decide +kernel
theorem dX8_readText_85 : decode cX8_readText 85 = .ok (.if_icmp .eq 47, 3) := by decide +kernel
theorem dX8_readText_88 : decode cX8_readText 88 = .ok (.aload_n 0, 1) := by decide +kernel
theorem dX8_readText_89 : decode cX8_readText 89 = .ok (.getfield 40, 3) := by decide +kernel
theorem dX8_readText_92 : decode cX8_readText 92 = .ok (.aload_n 0, 1) := by decide +kernel
theorem dX8_readText_93 : decode cX8_readText 93 = .ok (.getfield 97, 3) := by decide +kernel
theorem dX8_readText_96 : decode cX8_readText 96 = .ok (.aload_n 0, 1) := by decide +kernel
theorem dX8_readText_97 : decode cX8_readText 97 = .ok (.getfield 37, 3) := by decide +kernel
theorem dX8_readText_100 : decode cX8_readText 100 = .ok (.aload_n 0, 1) := by decide +kernel
theorem dX8_readText_101 : decode cX8_readText 101 = .ok (.getfield 90, 3) := by decide +kernel
theorem dX8_readText_104 : decode cX8_readText 104 = .ok (.iaload, 1) := by decide +kernel
theorem dX8_readText_105 : decode cX8_readText 105 = .ok (.invokestatic 106, 3) := by decide +kernel
theorem dX8_readText_108 : decode cX8_readText 108 = .ok (.iastore, 1) := by decide +kernel
theorem dX8_readText_109 : decode cX8_readText 109 = .ok (.aload_n 0, 1) := by decide +kernel
theorem dX8_readText_110 : decode cX8_readText 110 = .ok (.dup, 1) := by decide +kernel
theorem dX8_readText_111 : decode cX8_readText 111 = .ok (.getfield 97, 3) := by decide +kernel
theorem dX8_readText_114 : decode cX8_readText 114 = .ok (.iconst 1, 1) := by decide +kernel
theorem dX8_readText_115 : decode cX8_readText 115 = .ok (.iadd, 1) := by decide +kernel
theorem dX8_readText_116 : decode cX8_readText 116 = .ok (.putfield 97, 3) := by decide +kernel
theorem dX8_readText_119 : decode cX8_readText 119 = .ok (.aload_n 0, 1) := by decide +kernel
theorem dX8_readText_120 : decode cX8_readText 120 = .ok (.dup, 1) := by decide +kernel
theorem dX8_readText_121 : decode cX8_readText 121 = .ok (.getfield 90, 3) := by decide +kernel
theorem dX8_readText_124 : decode cX8_readText 124 = .ok (.iconst 1, 1) := by decide +kernel
theorem dX8_readText_125 : decode cX8_readText 125 = .ok (.iadd, 1) := by decide +kernel
theorem dX8_readText_126 : decode cX8_readText 126 = .ok (.putfield 90, 3) := by decide +kernel
theorem dX8_readText_129 : decode cX8_readText 129 = .ok (.goto (-78), 3) := by decide +kernel
theorem dX8_readText_132 : decode cX8_readText 132 = .ok (.aload_n 0, 1) := by decide +kernel
theorem dX8_readText_133 : decode cX8_readText 133 = .ok (.getfield 87, 3) := by decide +kernel
theorem dX8_readText_136 : decode cX8_readText 136 = .ok (.bipush (-9), 2) := by decide +kernel
theorem dX8_readText_138 : decode cX8_readText 138 = .ok (.if_icmp .ne 30, 3) := by decide +kernel
theorem dX8_readText_141 : decode cX8_readText 141 = .ok (.aload_n 0, 1) := by decide +kernel
theorem dX8_readText_142 : decode cX8_readText 142 = .ok (.getfield 90, 3) := by decide +kernel
theorem dX8_readText_145 : decode cX8_readText 145 = .ok (.aload_n 0, 1) := by decide +kernel
theorem dX8_readText_146 : decode cX8_readText 146 = .ok (.getfield 84, 3) := by decide +kernel
theorem dX8_readText_149 : decode cX8_readText 149 = .ok (.if_icmp .ge 19, 3) := by decide +kernel
theorem dX8_readText_152 : decode cX8_readText 152 = .ok (.aload_n 0, 1) := by decide +kernel
theorem dX8_readText_153 : decode cX8_readText 153 = .ok (.aload_n 0, 1) := by decide +kernel
theorem dX8_readText_154 : decode cX8_readText 154 = .ok (.getfield 37, 3) := by decide +kernel
theorem dX8_readText_157 : decode cX8_readText 157 = .ok (.aload_n 0, 1) := by decide +kernel
theorem dX8_readText_158 : decode cX8_readText 158 = .ok (.getfield 90, 3) := by decide +kernel
theorem dX8_readText_161 : decode cX8_readText 161 = .ok (.iaload, 1) := by decide +kernel
theorem dX8_readText_162 : decode cX8_readText 162 = .ok (.invokevirtual 110, 3) := by decide +kernel
theorem dX8_readText_165 : decode cX8_readText 165 = .ok (.goto (-33), 3) := by decide +kernel
theorem dX8_readText_168 : decode cX8_readText 168 = .ok (.aload_n 0, 1) := by decide +kernel
theorem dX8_readText_169 : decode cX8_readText 169 = .ok (.getfield 87, 3) := by decide +kernel
theorem dX8_readText_172 : decode cX8_readText 172 = .ok (.ireturn, 1) := by decide +kernel
theorem dX8_readPart_0 : decode cX8_readPart 0 = .ok (.iload_n 1, 1) := by decide +kernel
theorem dX8_readPart_1 : decode cX8_readPart 1 = .ok (.bipush 67, 2) := by decide +kernel
theorem dX8_readPart_3 : decode cX8_readPart 3 = .ok (.if_icmp .ne 180, 3) := by decide +kernel
theorem dX8_readPart_6 : decode cX8_readPart 6 = .ok (.aload_n 0, 1) := by decide +kernel
theorem dX8_readPart_7 : decode cX8_readPart 7 = .ok (.getfield 100, 3) := by decide +kernel
theorem dX8_readPart_10 : decode cX8_readPart 10 = .ok (.iconst 4, 1) := by decide +kernel
theorem dX8_readPart_11 : decode cX8_readPart 11 = .ok (.if_icmp .ge 172, 3) := by decide +kernel
theorem dX8_readPart_14 : decode cX8_readPart 14 = .ok (.aload_n 0, 1) := by decide +kernel
theorem dX8_readPart_15 : decode cX8_readPart 15 = .ok (.getfield 97, 3) := by decide +kernel
theorem dX8_readPart_18 : decode cX8_readPart 18 = .ok (.ifCond .le 165, 3) := by decide +kernel
theorem dX8_readPart_21 : decode cX8_readPart 21 = .ok (.aload_n 0, 1) := by decide +kernel
theorem dX8_readPart_22 : decode cX8_readPart 22 = .ok (.dup, 1) := by decide +kernel
theorem dX8_readPart_23 : decode cX8_readPart 23 = .ok (.getfield 90, 3) := by decide +kernel
theorem dX8_readPart_26 : decode cX8_readPart 26 = .ok (.iconst 1, 1) := by decide +kernel
theorem dX8_readPart_27 : decode cX8_readPart 27 = .ok (.iadd, 1) := by decide +kernel
theorem dX8_readPart_28 : decode cX8_readPart 28 = .ok (.putfield 90, 3) := by decide +kernel
theorem dX8_readPart_31 : decode cX8_readPart 31 = .ok (.aload_n 0, 1) := by decide +kernel
theorem dX8_readPart_32 : decode cX8_readPart 32 = .ok (.iconst 0, 1) := by decide +kernel
theorem dX8_readPart_33 : decode cX8_readPart 33 = .ok (.aload_n 0, 1) := by decide +kernel
theorem dX8_readPart_34 : decode cX8_readPart 34 = .ok (.getfield 97, 3) := by decide +kernel
theorem dX8_readPart_37 : decode cX8_readPart 37 = .ok (.iconst 1, 1) := by decide +kernel
theorem dX8_readPart_38 : decode cX8_readPart 38 = .ok (.isub, 1) := by decide +kernel
theorem dX8_readPart_39 : decode cX8_readPart 39 = .ok (.bipush 10, 2) := by decide +kernel
theorem dX8_readPart_41 : decode cX8_readPart 41 = .ok (.idiv, 1) := by decide +kernel
theorem dX8_readPart_42 : decode cX8_readPart 42 = .ok (.bipush 48, 2) := by decide +kernel
theorem dX8_readPart_44 : decode cX8_readPart 44 = .ok (.invokevirtual 114, 3) := by decide +kernel
theorem dX8_readPart_47 : decode cX8_readPart 47 = .ok (.istore_n 2, 1) := by decide +kernel
theorem dX8_readPart_48 : decode cX8_readPart 48 = .ok (.aload_n 0, 1) := by decide +kernel
theorem dX8_readPart_49 : decode cX8_readPart 49 = .ok (.iconst 0, 1) := by decide +kernel
theorem dX8_readPart_50 : decode cX8_readPart 50 = .ok (.aload_n 0, 1) := by decide +kernel
theorem dX8_readPart_51 : decode cX8_readPart 51 = .ok (.getfield 97, 3) := by decide +kernel
theorem dX8_readPart_54 : decode cX8_readPart 54 = .ok (.iconst 1, 1) := by decide +kernel
theorem dX8_readPart_55 : decode cX8_readPart 55 = .ok (.isub, 1) := by decide +kernel
theorem dX8_readPart_56 : decode cX8_readPart 56 = .ok (.bipush 10, 2) := by decide +kernel
theorem dX8_readPart_58 : decode cX8_readPart 58 = .ok (.iload_n 2, 1) := by decide +kernel
theorem dX8_readPart_59 : decode cX8_readPart 59 = .ok (.imul, 1) := by decide +kernel
theorem dX8_readPart_60 : decode cX8_readPart 60 = .ok (.isub, 1) := by decide +kernel
theorem dX8_readPart_61 : decode cX8_readPart 61 = .ok (.bipush 9, 2) := by decide +kernel
theorem dX8_readPart_63 : decode cX8_readPart 63 = .ok (.if_icmp .ge 17, 3) := by decide +kernel
theorem dX8_readPart_66 : decode cX8_readPart 66 = .ok (.aload_n 0, 1) := by decide +kernel
theorem dX8_readPart_67 : decode cX8_readPart 67 = .ok (.getfield 97, 3) := by decide +kernel
theorem dX8_readPart_70 : decode cX8_readPart 70 = .ok (.iconst 1, 1) := by decide +kernel
theorem dX8_readPart_71 : decode cX8_readPart 71 = .ok (.isub, 1) := by decide +kernel
theorem dX8_readPart_72 : decode cX8_readPart 72 = .ok (.bipush 10, 2) := by decide +kernel
theorem dX8_readPart_74 : decode cX8_readPart 74 = .ok (.iload_n 2, 1) := by decide +kernel
theorem dX8_readPart_75 : decode cX8_readPart 75 = .ok (.imul, 1) := by decide +kernel
theorem dX8_readPart_76 : decode cX8_readPart 76 = .ok (.isub, 1) := by decide +kernel
theorem dX8_readPart_77 : decode cX8_readPart 77 = .ok (.goto 5, 3) := by decide +kernel
theorem dX8_readPart_80 : decode cX8_readPart 80 = .ok (.bipush 9, 2) := by decide +kernel
theorem dX8_readPart_82 : decode cX8_readPart 82 = .ok (.bipush 48, 2) := by decide +kernel
theorem dX8_readPart_84 : decode cX8_readPart 84 = .ok (.invokevirtual 114, 3) := by decide +kernel
theorem dX8_readPart_87 : decode cX8_readPart 87 = .ok (.istore_n 3, 1) := by decide +kernel
theorem dX8_readPart_88 : decode cX8_readPart 88 = .ok (.aload_n 0, 1) := by decide +kernel
theorem dX8_readPart_89 : decode cX8_readPart 89 = .ok (.getfield 97, 3) := by decide +kernel
theorem dX8_readPart_92 : decode cX8_readPart 92 = .ok (.bipush 10, 2) := by decide +kernel
theorem dX8_readPart_94 : decode cX8_readPart 94 = .ok (.iload_n 2, 1) := by decide +kernel
theorem dX8_readPart_95 : decode cX8_readPart 95 = .ok (.imul, 1) := by decide +kernel
theorem dX8_readPart_96 : decode cX8_readPart 96 = .ok (.isub, 1) := by decide +kernel
theorem dX8_readPart_97 : decode cX8_readPart 97 = .ok (.iload_n 3, 1) := by decide +kernel
theorem dX8_readPart_98 : decode cX8_readPart 98 = .ok (.isub, 1) := by decide +kernel
theorem dX8_readPart_99 : decode cX8_readPart 99 = .ok (.istore 4, 2) := by decide +kernel
theorem dX8_readPart_101 : decode cX8_readPart 101 = .ok (.iconst 3, 1) := by decide +kernel
theorem dX8_readPart_102 : decode cX8_readPart 102 = .ok (.aload_n 0, 1) := by decide +kernel
theorem dX8_readPart_103 : decode cX8_readPart 103 = .ok (.getfield 100, 3) := by decide +kernel
theorem dX8_readPart_106 : decode cX8_readPart 106 = .ok (.imul, 1) := by decide +kernel
theorem dX8_readPart_107 : decode cX8_readPart 107 = .ok (.istore 5, 2) := by decide +kernel
theorem dX8_readPart_109 : decode cX8_readPart 109 = .ok (.aload_n 0, 1) := by decide +kernel
theorem dX8_readPart_110 : decode cX8_readPart 110 = .ok (.getfield 43, 3) := by decide +kernel
theorem dX8_readPart_113 : decode cX8_readPart 113 = .ok (.iload 5, 2) := by decide +kernel
theorem dX8_readPart_115 : decode cX8_readPart 115 = .ok (.bipush 10, 2) := by decide +kernel
theorem dX8_readPart_117 : decode cX8_readPart 117 = .ok (.iload_n 2, 1) := by decide +kernel
theorem dX8_readPart_118 : decode cX8_readPart 118 = .ok (.imul, 1) := by decide +kernel
theorem dX8_readPart_119 : decode cX8_readPart 119 = .ok (.iload_n 3, 1) := by decide +kernel
theorem dX8_readPart_120 : decode cX8_readPart 120 = .ok (.iadd, 1) := by decide +kernel
theorem dX8_readPart_121 : decode cX8_readPart 121 = .ok (.iastore, 1) := by decide +kernel
theorem dX8_readPart_122 : decode cX8_readPart 122 = .ok (.aload_n 0, 1) := by decide +kernel
theorem dX8_readPart_123 : decode cX8_readPart 123 = .ok (.getfield 43, 3) := by decide +kernel
theorem dX8_readPart_126 : decode cX8_readPart 126 = .ok (.iload 5, 2) := by decide +kernel
theorem dX8_readPart_128 : decode cX8_readPart 128 = .ok (.iconst 1, 1) := by decide +kernel
theorem dX8_readPart_129 : decode cX8_readPart 129 = .ok (.iadd, 1) := by decide +kernel
theorem dX8_readPart_130 : decode cX8_readPart 130 = .ok (.aload_n 0, 1) := by decide +kernel
theorem dX8_readPart_131 : decode cX8_readPart 131 = .ok (.iconst 1, 1) := by decide +kernel
theorem dX8_readPart_132 : decode cX8_readPart 132 = .ok (.iload 4, 2) := by decide +kernel
theorem dX8_readPart_134 : decode cX8_readPart 134 = .ok (.bipush 6, 2) := by decide +kernel
theorem dX8_readPart_136 : decode cX8_readPart 136 = .ok (.if_icmp .ge 8, 3) := by decide +kernel
theorem dX8_readPart_139 : decode cX8_readPart 139 = .ok (.iload 4, 2) := by decide +kernel
theorem dX8_readPart_141 : decode cX8_readPart 141 = .ok (.goto 5, 3) := by decide +kernel
theorem dX8_readPart_144 : decode cX8_readPart 144 = .ok (.bipush 6, 2) := by decide +kernel
theorem dX8_readPart_146 : decode cX8_readPart 146 = .ok (.bipush 48, 2) := by decide +kernel
theorem dX8_readPart_148 : decode cX8_readPart 148 = .ok (.invokevirtual 114, 3) := by decide +kernel
theorem dX8_readPart_151 : decode cX8_readPart 151 = .ok (.iastore, 1) := by decide +kernel
theorem dX8_readPart_152 : decode cX8_readPart 152 = .ok (.aload_n 0, 1) := by decide +kernel
theorem dX8_readPart_153 : decode cX8_readPart 153 = .ok (.getfield 43, 3) := by decide +kernel
theorem dX8_readPart_156 : decode cX8_readPart 156 = .ok (.iload 5, 2) := by decide +kernel
theorem dX8_readPart_158 : decode cX8_readPart 158 = .ok (.iconst 2, 1) := by decide +kernel
theorem dX8_readPart_159 : decode cX8_readPart 159 = .ok (.iadd, 1) := by decide +kernel
theorem dX8_readPart_160 : decode cX8_readPart 160 = .ok (.aload_n 0, 1) := by decide +kernel
theorem dX8_readPart_161 : decode cX8_readPart 161 = .ok (.iconst 1, 1) := by decide +kernel
theorem dX8_readPart_162 : decode cX8_readPart 162 = .ok (.bipush 9, 2) := by decide +kernel
theorem dX8_readPart_164 : decode cX8_readPart 164 = .ok (.bipush 48, 2) := by decide +kernel
theorem dX8_readPart_166 : decode cX8_readPart 166 = .ok (.invokevirtual 114, 3) := by decide +kernel
theorem dX8_readPart_169 : decode cX8_readPart 169 = .ok (.iastore, 1) := by decide +kernel
theorem dX8_readPart_170 : decode cX8_readPart 170 = .ok (.aload_n 0, 1) := by decide +kernel
theorem dX8_readPart_171 : decode cX8_readPart 171 = .ok (.dup, 1) := by decide +kernel
theorem dX8_readPart_172 : decode cX8_readPart 172 = .ok (.getfield 100, 3) := by decide +kernel
theorem dX8_readPart_175 : decode cX8_readPart 175 = .ok (.iconst 1, 1) := by decide +kernel
theorem dX8_readPart_176 : decode cX8_readPart 176 = .ok (.iadd, 1) := by decide +kernel
theorem dX8_readPart_177 : decode cX8_readPart 177 = .ok (.putfield 100, 3) := by decide +kernel
theorem dX8_readPart_180 : decode cX8_readPart 180 = .ok (.goto 127, 3) := by decide +kernel
theorem dX8_readPart_183 : decode cX8_readPart 183 = .ok (.iload_n 1, 1) := by decide +kernel
theorem dX8_readPart_184 : decode cX8_readPart 184 = .ok (.bipush 71, 2) := by decide +kernel
theorem dX8_readPart_186 : decode cX8_readPart 186 = .ok (.if_icmp .ne 113, 3) := by decide +kernel
theorem dX8_readPart_189 : decode cX8_readPart 189 = .ok (.aload_n 0, 1) := by decide +kernel
theorem dX8_readPart_190 : decode cX8_readPart 190 = .ok (.getfield 103, 3) := by decide +kernel
theorem dX8_readPart_193 : decode cX8_readPart 193 = .ok (.iconst 4, 1) := by decide +kernel
theorem dX8_readPart_194 : decode cX8_readPart 194 = .ok (.if_icmp .ge 105, 3) := by decide +kernel
theorem dX8_readPart_197 : decode cX8_readPart 197 = .ok (.aload_n 0, 1) := by decide +kernel
theorem dX8_readPart_198 : decode cX8_readPart 198 = .ok (.dup, 1) := by decide +kernel
theorem dX8_readPart_199 : decode cX8_readPart 199 = .ok (.getfield 90, 3) := by decide +kernel
theorem dX8_readPart_202 : decode cX8_readPart 202 = .ok (.iconst 1, 1) := by decide +kernel
theorem dX8_readPart_203 : decode cX8_readPart 203 = .ok (.iadd, 1) := by decide +kernel
theorem dX8_readPart_204 : decode cX8_readPart 204 = .ok (.putfield 90, 3) := by decide +kernel
theorem dX8_readPart_207 : decode cX8_readPart 207 = .ok (.iconst 4, 1) := by decide +kernel
theorem dX8_readPart_208 : decode cX8_readPart 208 = .ok (.aload_n 0, 1) := by decide +kernel
theorem dX8_readPart_209 : decode cX8_readPart 209 = .ok (.getfield 103, 3) := by decide +kernel
theorem dX8_readPart_212 : decode cX8_readPart 212 = .ok (.imul, 1) := by decide +kernel
theorem dX8_readPart_213 : decode cX8_readPart 213 = .ok (.istore_n 2, 1) := by decide +kernel
theorem dX8_readPart_214 : decode cX8_readPart 214 = .ok (.aload_n 0, 1) := by decide +kernel
theorem dX8_readPart_215 : decode cX8_readPart 215 = .ok (.getfield 46, 3) := by decide +kernel
theorem dX8_readPart_218 : decode cX8_readPart 218 = .ok (.iload_n 2, 1) := by decide +kernel
theorem dX8_readPart_219 : decode cX8_readPart 219 = .ok (.aload_n 0, 1) := by decide +kernel
theorem dX8_readPart_220 : decode cX8_readPart 220 = .ok (.iconst 0, 1) := by decide +kernel
theorem dX8_readPart_221 : decode cX8_readPart 221 = .ok (.iconst 3, 1) := by decide +kernel
theorem dX8_readPart_222 : decode cX8_readPart 222 = .ok (.bipush 97, 2) := by decide +kernel
theorem dX8_readPart_224 : decode cX8_readPart 224 = .ok (.invokevirtual 114, 3) := by decide +kernel
theorem dX8_readPart_227 : decode cX8_readPart 227 = .ok (.iastore, 1) := by decide +kernel
theorem dX8_readPart_228 : decode cX8_readPart 228 = .ok (.aload_n 0, 1) := by decide +kernel
theorem dX8_readPart_229 : decode cX8_readPart 229 = .ok (.getfield 46, 3) := by decide +kernel
theorem dX8_readPart_232 : decode cX8_readPart 232 = .ok (.iload_n 2, 1) := by decide +kernel
theorem dX8_readPart_233 : decode cX8_readPart 233 = .ok (.iconst 1, 1) := by decide +kernel
theorem dX8_readPart_234 : decode cX8_readPart 234 = .ok (.iadd, 1) := by decide +kernel
theorem dX8_readPart_235 : decode cX8_readPart 235 = .ok (.aload_n 0, 1) := by decide +kernel
theorem dX8_readPart_236 : decode cX8_readPart 236 = .ok (.iconst 1, 1) := by decide +kernel
theorem dX8_readPart_237 : decode cX8_readPart 237 = .ok (.bipush 6, 2) := by decide +kernel
theorem dX8_readPart_239 : decode cX8_readPart 239 = .ok (.bipush 48, 2) := by decide +kernel
theorem dX8_readPart_241 : decode cX8_readPart 241 = .ok (.invokevirtual 114, 3) := by decide +kernel
theorem dX8_readPart_244 : decode cX8_readPart 244 = .ok (.iastore, 1) := by decide +kernel
theorem dX8_readPart_245 : decode cX8_readPart 245 = .ok (.aload_n 0, 1) := by decide +kernel
theorem dX8_readPart_246 : decode cX8_readPart 246 = .ok (.getfield 46, 3) := by decide +kernel
theorem dX8_readPart_249 : decode cX8_readPart 249 = .ok (.iload_n 2, 1) := by decide +kernel
theorem dX8_readPart_250 : decode cX8_readPart 250 = .ok (.iconst 2, 1) := by decide +kernel
theorem dX8_readPart_251 : decode cX8_readPart 251 = .ok (.iadd, 1) := by decide +kernel
theorem dX8_readPart_252 : decode cX8_readPart 252 = .ok (.aload_n 0, 1) := by decide +kernel
theorem dX8_readPart_253 : decode cX8_readPart 253 = .ok (.iconst 0, 1) := by decide +kernel
theorem dX8_readPart_254 : decode cX8_readPart 254 = .ok (.bipush 9, 2) := by decide +kernel
theorem dX8_readPart_256 : decode cX8_readPart 256 = .ok (.bipush 48, 2) := by decide +kernel
theorem dX8_readPart_258 : decode cX8_readPart 258 = .ok (.invokevirtual 114, 3) := by decide +kernel
theorem dX8_readPart_261 : decode cX8_readPart 261 = .ok (.iastore, 1) := by decide +kernel
theorem dX8_readPart_262 : decode cX8_readPart 262 = .ok (.aload_n 0, 1) := by decide +kernel
theorem dX8_readPart_263 : decode cX8_readPart 263 = .ok (.getfield 46, 3) := by decide +kernel
theorem dX8_readPart_266 : decode cX8_readPart 266 = .ok (.iload_n 2, 1) := by decide +kernel
theorem dX8_readPart_267 : decode cX8_readPart 267 = .ok (.iconst 3, 1) := by decide +kernel
theorem dX8_readPart_268 : decode cX8_readPart 268 = .ok (.iadd, 1) := by decide +kernel
theorem dX8_readPart_269 : decode cX8_readPart 269 = .ok (.aload_n 0, 1) := by decide +kernel
theorem dX8_readPart_270 : decode cX8_readPart 270 = .ok (.aload_n 0, 1) := by decide +kernel
theorem dX8_readPart_271 : decode cX8_readPart 271 = .ok (.getfield 46, 3) := by decide +kernel
theorem dX8_readPart_274 : decode cX8_readPart 274 = .ok (.iload_n 2, 1) := by decide +kernel
theorem dX8_readPart_275 : decode cX8_readPart 275 = .ok (.iconst 2, 1) := by decide +kernel
theorem dX8_readPart_276 : decode cX8_readPart 276 = .ok (.iadd, 1) := by decide +kernel
theorem dX8_readPart_277 : decode cX8_readPart 277 = .ok (.iaload, 1) := by decide +kernel
theorem dX8_readPart_278 : decode cX8_readPart 278 = .ok (.bipush 9, 2) := by decide +kernel
theorem dX8_readPart_280 : decode cX8_readPart 280 = .ok (.bipush 48, 2) := by decide +kernel
theorem dX8_readPart_282 : decode cX8_readPart 282 = .ok (.invokevirtual 114, 3) := by decide +kernel
theorem dX8_readPart_285 : decode cX8_readPart 285 = .ok (.iastore, 1) := by decide +kernel
theorem dX8_readPart_286 : decode cX8_readPart 286 = .ok (.aload_n 0, 1) := by decide +kernel
theorem dX8_readPart_287 : decode cX8_readPart 287 = .ok (.dup, 1) := by decide +kernel
theorem dX8_readPart_288 : decode cX8_readPart 288 = .ok (.getfield 103, 3) := by decide +kernel
theorem dX8_readPart_291 : decode cX8_readPart 291 = .ok (.iconst 1, 1) := by decide +kernel
theorem dX8_readPart_292 : decode cX8_readPart 292 = .ok (.iadd, 1) := by decide +kernel
theorem dX8_readPart_293 : decode cX8_readPart 293 = .ok (.putfield 103, 3) := by decide +kernel
theorem dX8_readPart_296 : decode cX8_readPart 296 = .ok (.goto 11, 3) := by decide +kernel
theorem dX8_readPart_299 : decode cX8_readPart 299 = .ok (.aload_n 0, 1) := by decide +kernel
theorem dX8_readPart_300 : decode cX8_readPart 300 = .ok (.aload_n 0, 1) := by decide +kernel
theorem dX8_readPart_301 : decode cX8_readPart 301 = .ok (.getfield 90, 3) := by decide +kernel
theorem dX8_readPart_304 : decode cX8_readPart 304 = .ok (.putfield 87, 3) := by decide +kernel
theorem dX8_readPart_307 : decode cX8_readPart 307 = .ok (.return_, 1) := by decide +kernel
theorem dX8_fault_0 : decode cX8_fault 0 = .ok (.aload_n 0, 1) := by decide +kernel
theorem dX8_fault_1 : decode cX8_fault 1 = .ok (.invokevirtual 118, 3) := by decide +kernel
theorem dX8_fault_4 : decode cX8_fault 4 = .ok (.ireturn, 1) := by decide +kernel
theorem dX8_party_0 : decode cX8_party 0 = .ok (.aload_n 0, 1) := by decide +kernel
theorem dX8_party_1 : decode cX8_party 1 = .ok (.invokevirtual 118, 3) := by decide +kernel
theorem dX8_party_4 : decode cX8_party 4 = .ok (.bipush (-9), 2) := by decide +kernel
theorem dX8_party_6 : decode cX8_party 6 = .ok (.if_icmp .eq 6, 3) := by decide +kernel
theorem dX8_party_9 : decode cX8_party 9 = .ok (.bipush (-3), 2) := by decide +kernel
theorem dX8_party_11 : decode cX8_party 11 = .ok (.ireturn, 1) := by decide +kernel
theorem dX8_party_12 : decode cX8_party 12 = .ok (.aload_n 0, 1) := by decide +kernel
theorem dX8_party_13 : decode cX8_party 13 = .ok (.aload_n 0, 1) := by decide +kernel
theorem dX8_party_14 : decode cX8_party 14 = .ok (.getfield 97, 3) := by decide +kernel
theorem dX8_party_17 : decode cX8_party 17 = .ok (.putfield 74, 3) := by decide +kernel
theorem dX8_party_20 : decode cX8_party 20 = .ok (.aload_n 0, 1) := by decide +kernel
theorem dX8_party_21 : decode cX8_party 21 = .ok (.aload_n 0, 1) := by decide +kernel
theorem dX8_party_22 : decode cX8_party 22 = .ok (.getfield 100, 3) := by decide +kernel
theorem dX8_party_25 : decode cX8_party 25 = .ok (.putfield 122, 3) := by decide +kernel
theorem dX8_party_28 : decode cX8_party 28 = .ok (.aload_n 0, 1) := by decide +kernel
theorem dX8_party_29 : decode cX8_party 29 = .ok (.aload_n 0, 1) := by decide +kernel
theorem dX8_party_30 : decode cX8_party 30 = .ok (.getfield 103, 3) := by decide +kernel
theorem dX8_party_33 : decode cX8_party 33 = .ok (.putfield 125, 3) := by decide +kernel
theorem dX8_party_36 : decode cX8_party 36 = .ok (.iconst 0, 1) := by decide +kernel
theorem dX8_party_37 : decode cX8_party 37 = .ok (.istore_n 1, 1) := by decide +kernel
theorem dX8_party_38 : decode cX8_party 38 = .ok (.iload_n 1, 1) := by decide +kernel
theorem dX8_party_39 : decode cX8_party 39 = .ok (.bipush 12, 2) := by decide +kernel
theorem dX8_party_41 : decode cX8_party 41 = .ok (.if_icmp .ge 21, 3) := by decide +kernel
theorem dX8_party_44 : decode cX8_party 44 = .ok (.aload_n 0, 1) := by decide +kernel
theorem dX8_party_45 : decode cX8_party 45 = .ok (.getfield 7, 3) := by decide +kernel
theorem dX8_party_48 : decode cX8_party 48 = .ok (.iload_n 1, 1) := by decide +kernel
theorem dX8_party_49 : decode cX8_party 49 = .ok (.aload_n 0, 1) := by decide +kernel
theorem dX8_party_50 : decode cX8_party 50 = .ok (.getfield 40, 3) := by decide +kernel
theorem dX8_party_53 : decode cX8_party 53 = .ok (.iload_n 1, 1) := by decide +kernel
theorem dX8_party_54 : decode cX8_party 54 = .ok (.iaload, 1) := by decide +kernel
theorem dX8_party_55 : decode cX8_party 55 = .ok (.iastore, 1) := by decide +kernel
theorem dX8_party_56 : decode cX8_party 56 = .ok (.iinc 1 1, 3) := by decide +kernel
theorem dX8_party_59 : decode cX8_party 59 = .ok (.goto (-21), 3) := by decide +kernel
theorem dX8_party_62 : decode cX8_party 62 = .ok (.iconst 0, 1) := by decide +kernel
theorem dX8_party_63 : decode cX8_party 63 = .ok (.istore_n 1, 1) := by decide +kernel
theorem dX8_party_64 : decode cX8_party 64 = .ok (.iload_n 1, 1) := by decide +kernel
theorem dX8_party_65 : decode cX8_party 65 = .ok (.iconst 4, 1) := by decide +kernel
theorem dX8_party_66 : decode cX8_party 66 = .ok (.if_icmp .ge 163, 3) := by decide +kernel
theorem dX8_party_69 : decode cX8_party 69 = .ok (.aload_n 0, 1) := by decide +kernel
theorem dX8_party_70 : decode cX8_party 70 = .ok (.getfield 13, 3) := by decide +kernel
theorem dX8_party_73 : decode cX8_party 73 = .ok (.iload_n 1, 1) := by decide +kernel
theorem dX8_party_74 : decode cX8_party 74 = .ok (.aload_n 0, 1) := by decide +kernel
theorem dX8_party_75 : decode cX8_party 75 = .ok (.getfield 43, 3) := by decide +kernel
theorem dX8_party_78 : decode cX8_party 78 = .ok (.iconst 3, 1) := by decide +kernel
theorem dX8_party_79 : decode cX8_party 79 = .ok (.iload_n 1, 1) := by decide +kernel
theorem dX8_party_80 : decode cX8_party 80 = .ok (.imul, 1) := by decide +kernel
theorem dX8_party_81 : decode cX8_party 81 = .ok (.iaload, 1) := by decide +kernel
theorem dX8_party_82 : decode cX8_party 82 = .ok (.iastore, 1) := by decide +kernel
theorem dX8_party_83 : decode cX8_party 83 = .ok (.aload_n 0, 1) := by decide +kernel
theorem dX8_party_84 : decode cX8_party 84 = .ok (.getfield 16, 3) := by decide +kernel
theorem dX8_party_87 : decode cX8_party 87 = .ok (.iload_n 1, 1) := by decide +kernel
theorem dX8_party_88 : decode cX8_party 88 = .ok (.aload_n 0, 1) := by decide +kernel
theorem dX8_party_89 : decode cX8_party 89 = .ok (.getfield 43, 3) := by decide +kernel
theorem dX8_party_92 : decode cX8_party 92 = .ok (.iconst 3, 1) := by decide +kernel
theorem dX8_party_93 : decode cX8_party 93 = .ok (.iload_n 1, 1) := by decide +kernel
theorem dX8_party_94 : decode cX8_party 94 = .ok (.imul, 1) := by decide +kernel
theorem dX8_party_95 : decode cX8_party 95 = .ok (.iconst 1, 1) := by decide +kernel
theorem dX8_party_96 : decode cX8_party 96 = .ok (.iadd, 1) := by decide +kernel
theorem dX8_party_97 : decode cX8_party 97 = .ok (.iaload, 1) := by decide +kernel
theorem dX8_party_98 : decode cX8_party 98 = .ok (.iastore, 1) := by decide +kernel
theorem dX8_party_99 : decode cX8_party 99 = .ok (.aload_n 0, 1) := by decide +kernel
theorem dX8_party_100 : decode cX8_party 100 = .ok (.getfield 19, 3) := by decide +kernel
theorem dX8_party_103 : decode cX8_party 103 = .ok (.iload_n 1, 1) := by decide +kernel
theorem dX8_party_104 : decode cX8_party 104 = .ok (.aload_n 0, 1) := by decide +kernel
theorem dX8_party_105 : decode cX8_party 105 = .ok (.getfield 43, 3) := by decide +kernel
theorem dX8_party_108 : decode cX8_party 108 = .ok (.iconst 3, 1) := by decide +kernel
theorem dX8_party_109 : decode cX8_party 109 = .ok (.iload_n 1, 1) := by decide +kernel
theorem dX8_party_110 : decode cX8_party 110 = .ok (.imul, 1) := by decide +kernel
theorem dX8_party_111 : decode cX8_party 111 = .ok (.iconst 2, 1) := by decide +kernel
theorem dX8_party_112 : decode cX8_party 112 = .ok (.iadd, 1) := by decide +kernel
theorem dX8_party_113 : decode cX8_party 113 = .ok (.iaload, 1) := by decide +kernel
theorem dX8_party_114 : decode cX8_party 114 = .ok (.iastore, 1) := by decide +kernel
theorem dX8_party_115 : decode cX8_party 115 = .ok (.aload_n 0, 1) := by decide +kernel
theorem dX8_party_116 : decode cX8_party 116 = .ok (.getfield 34, 3) := by decide +kernel
theorem dX8_party_119 : decode cX8_party 119 = .ok (.iload_n 1, 1) := by decide +kernel
theorem dX8_party_120 : decode cX8_party 120 = .ok (.aload_n 0, 1) := by decide +kernel
theorem dX8_party_121 : decode cX8_party 121 = .ok (.getfield 13, 3) := by decide +kernel
theorem dX8_party_124 : decode cX8_party 124 = .ok (.iload_n 1, 1) := by decide +kernel
theorem dX8_party_125 : decode cX8_party 125 = .ok (.iaload, 1) := by decide +kernel
theorem dX8_party_126 : decode cX8_party 126 = .ok (.iastore, 1) := by decide +kernel
theorem dX8_party_127 : decode cX8_party 127 = .ok (.aload_n 0, 1) := by decide +kernel
theorem dX8_party_128 : decode cX8_party 128 = .ok (.getfield 34, 3) := by decide +kernel
theorem dX8_party_131 : decode cX8_party 131 = .ok (.iconst 4, 1) := by decide +kernel
theorem dX8_party_132 : decode cX8_party 132 = .ok (.iload_n 1, 1) := by decide +kernel
theorem dX8_party_133 : decode cX8_party 133 = .ok (.iadd, 1) := by decide +kernel
theorem dX8_party_134 : decode cX8_party 134 = .ok (.aload_n 0, 1) := by decide +kernel
theorem dX8_party_135 : decode cX8_party 135 = .ok (.getfield 16, 3) := by decide +kernel
theorem dX8_party_138 : decode cX8_party 138 = .ok (.iload_n 1, 1) := by decide +kernel
theorem dX8_party_139 : decode cX8_party 139 = .ok (.iaload, 1) := by decide +kernel
theorem dX8_party_140 : decode cX8_party 140 = .ok (.iastore, 1) := by decide +kernel
theorem dX8_party_141 : decode cX8_party 141 = .ok (.aload_n 0, 1) := by decide +kernel
theorem dX8_party_142 : decode cX8_party 142 = .ok (.getfield 34, 3) := by decide +kernel
theorem dX8_party_145 : decode cX8_party 145 = .ok (.bipush 8, 2) := by decide +kernel
theorem dX8_party_147 : decode cX8_party 147 = .ok (.iload_n 1, 1) := by decide +kernel
theorem dX8_party_148 : decode cX8_party 148 = .ok (.iadd, 1) := by decide +kernel
theorem dX8_party_149 : decode cX8_party 149 = .ok (.iconst 0, 1) := by decide +kernel
theorem dX8_party_150 : decode cX8_party 150 = .ok (.iastore, 1) := by decide +kernel
theorem dX8_party_151 : decode cX8_party 151 = .ok (.aload_n 0, 1) := by decide +kernel
theorem dX8_party_152 : decode cX8_party 152 = .ok (.getfield 34, 3) := by decide +kernel
theorem dX8_party_155 : decode cX8_party 155 = .ok (.bipush 12, 2) := by decide +kernel
theorem dX8_party_157 : decode cX8_party 157 = .ok (.iload_n 1, 1) := by decide +kernel
theorem dX8_party_158 : decode cX8_party 158 = .ok (.iadd, 1) := by decide +kernel
theorem dX8_party_159 : decode cX8_party 159 = .ok (.iconst 0, 1) := by decide +kernel
theorem dX8_party_160 : decode cX8_party 160 = .ok (.iastore, 1) := by decide +kernel
theorem dX8_party_161 : decode cX8_party 161 = .ok (.aload_n 0, 1) := by decide +kernel
theorem dX8_party_162 : decode cX8_party 162 = .ok (.getfield 22, 3) := by decide +kernel
theorem dX8_party_165 : decode cX8_party 165 = .ok (.iload_n 1, 1) := by decide +kernel
theorem dX8_party_166 : decode cX8_party 166 = .ok (.aload_n 0, 1) := by decide +kernel
theorem dX8_party_167 : decode cX8_party 167 = .ok (.getfield 46, 3) := by decide +kernel
theorem dX8_party_170 : decode cX8_party 170 = .ok (.iconst 4, 1) := by decide +kernel
theorem dX8_party_171 : decode cX8_party 171 = .ok (.iload_n 1, 1) := by decide +kernel
theorem dX8_party_172 : decode cX8_party 172 = .ok (.imul, 1) := by decide +kernel
theorem dX8_party_173 : decode cX8_party 173 = .ok (.iaload, 1) := by decide +kernel
theorem dX8_party_174 : decode cX8_party 174 = .ok (.iastore, 1) := by decide +kernel
theorem dX8_party_175 : decode cX8_party 175 = .ok (.aload_n 0, 1) := by decide +kernel
theorem dX8_party_176 : decode cX8_party 176 = .ok (.getfield 25, 3) := by decide +kernel
theorem dX8_party_179 : decode cX8_party 179 = .ok (.iload_n 1, 1) := by decide +kernel
theorem dX8_party_180 : decode cX8_party 180 = .ok (.aload_n 0, 1) := by decide +kernel
theorem dX8_party_181 : decode cX8_party 181 = .ok (.getfield 46, 3) := by decide +kernel
theorem dX8_party_184 : decode cX8_party 184 = .ok (.iconst 4, 1) := by decide +kernel
theorem dX8_party_185 : decode cX8_party 185 = .ok (.iload_n 1, 1) := by decide +kernel
theorem dX8_party_186 : decode cX8_party 186 = .ok (.imul, 1) := by decide +kernel
theorem dX8_party_187 : decode cX8_party 187 = .ok (.iconst 1, 1) := by decide +kernel
theorem dX8_party_188 : decode cX8_party 188 = .ok (.iadd, 1) := by decide +kernel
theorem dX8_party_189 : decode cX8_party 189 = .ok (.iaload, 1) := by decide +kernel
theorem dX8_party_190 : decode cX8_party 190 = .ok (.iastore, 1) := by decide +kernel
theorem dX8_party_191 : decode cX8_party 191 = .ok (.aload_n 0, 1) := by decide +kernel
theorem dX8_party_192 : decode cX8_party 192 = .ok (.getfield 28, 3) := by decide +kernel
theorem dX8_party_195 : decode cX8_party 195 = .ok (.iload_n 1, 1) := by decide +kernel
theorem dX8_party_196 : decode cX8_party 196 = .ok (.aload_n 0, 1) := by decide +kernel
theorem dX8_party_197 : decode cX8_party 197 = .ok (.getfield 46, 3) := by decide +kernel
theorem dX8_party_200 : decode cX8_party 200 = .ok (.iconst 4, 1) := by decide +kernel
theorem dX8_party_201 : decode cX8_party 201 = .ok (.iload_n 1, 1) := by decide +kernel
theorem dX8_party_202 : decode cX8_party 202 = .ok (.imul, 1) := by decide +kernel
theorem dX8_party_203 : decode cX8_party 203 = .ok (.iconst 2, 1) := by decide +kernel
theorem dX8_party_204 : decode cX8_party 204 = .ok (.iadd, 1) := by decide +kernel
theorem dX8_party_205 : decode cX8_party 205 = .ok (.iaload, 1) := by decide +kernel
theorem dX8_party_206 : decode cX8_party 206 = .ok (.iastore, 1) := by decide +kernel
theorem dX8_party_207 : decode cX8_party 207 = .ok (.aload_n 0, 1) := by decide +kernel
theorem dX8_party_208 : decode cX8_party 208 = .ok (.getfield 31, 3) := by decide +kernel
theorem dX8_party_211 : decode cX8_party 211 = .ok (.iload_n 1, 1) := by decide +kernel
theorem dX8_party_212 : decode cX8_party 212 = .ok (.aload_n 0, 1) := by decide +kernel
theorem dX8_party_213 : decode cX8_party 213 = .ok (.getfield 46, 3) := by decide +kernel
theorem dX8_party_216 : decode cX8_party 216 = .ok (.iconst 4, 1) := by decide +kernel
theorem dX8_party_217 : decode cX8_party 217 = .ok (.iload_n 1, 1) := by decide +kernel
theorem dX8_party_218 : decode cX8_party 218 = .ok (.imul, 1) := by decide +kernel
theorem dX8_party_219 : decode cX8_party 219 = .ok (.iconst 3, 1) := by decide +kernel
theorem dX8_party_220 : decode cX8_party 220 = .ok (.iadd, 1) := by decide +kernel
theorem dX8_party_221 : decode cX8_party 221 = .ok (.iaload, 1) := by decide +kernel
theorem dX8_party_222 : decode cX8_party 222 = .ok (.iastore, 1) := by decide +kernel
theorem dX8_party_223 : decode cX8_party 223 = .ok (.iinc 1 1, 3) := by decide +kernel
theorem dX8_party_226 : decode cX8_party 226 = .ok (.goto (-162), 3) := by decide +kernel
theorem dX8_party_229 : decode cX8_party 229 = .ok (.aload_n 0, 1) := by decide +kernel
theorem dX8_party_230 : decode cX8_party 230 = .ok (.getfield 34, 3) := by decide +kernel
theorem dX8_party_233 : decode cX8_party 233 = .ok (.bipush 16, 2) := by decide +kernel
theorem dX8_party_235 : decode cX8_party 235 = .ok (.iconst 0, 1) := by decide +kernel
theorem dX8_party_236 : decode cX8_party 236 = .ok (.iastore, 1) := by decide +kernel
theorem dX8_party_237 : decode cX8_party 237 = .ok (.aload_n 0, 1) := by decide +kernel
theorem dX8_party_238 : decode cX8_party 238 = .ok (.getfield 34, 3) := by decide +kernel
theorem dX8_party_241 : decode cX8_party 241 = .ok (.bipush 17, 2) := by decide +kernel
theorem dX8_party_243 : decode cX8_party 243 = .ok (.iconst 0, 1) := by decide +kernel
theorem dX8_party_244 : decode cX8_party 244 = .ok (.iastore, 1) := by decide +kernel
theorem dX8_party_245 : decode cX8_party 245 = .ok (.aload_n 0, 1) := by decide +kernel
theorem dX8_party_246 : decode cX8_party 246 = .ok (.iconst 0, 1) := by decide +kernel
theorem dX8_party_247 : decode cX8_party 247 = .ok (.putfield 128, 3) := by decide +kernel
theorem dX8_party_250 : decode cX8_party 250 = .ok (.aload_n 0, 1) := by decide +kernel
theorem dX8_party_251 : decode cX8_party 251 = .ok (.getfield 67, 3) := by decide +kernel
theorem dX8_party_254 : decode cX8_party 254 = .ok (.iconst 0, 1) := by decide +kernel
theorem dX8_party_255 : decode cX8_party 255 = .ok (.iconst 0, 1) := by decide +kernel
theorem dX8_party_256 : decode cX8_party 256 = .ok (.bastore, 1) := by decide +kernel
theorem dX8_party_257 : decode cX8_party 257 = .ok (.aload_n 0, 1) := by decide +kernel
theorem dX8_party_258 : decode cX8_party 258 = .ok (.getfield 67, 3) := by decide +kernel
theorem dX8_party_261 : decode cX8_party 261 = .ok (.iconst 1, 1) := by decide +kernel
theorem dX8_party_262 : decode cX8_party 262 = .ok (.iconst 0, 1) := by decide +kernel
theorem dX8_party_263 : decode cX8_party 263 = .ok (.bastore, 1) := by decide +kernel
theorem dX8_party_264 : decode cX8_party 264 = .ok (.bipush 10, 2) := by decide +kernel
theorem dX8_party_266 : decode cX8_party 266 = .ok (.aload_n 0, 1) := by decide +kernel
theorem dX8_party_267 : decode cX8_party 267 = .ok (.getfield 122, 3) := by decide +kernel
theorem dX8_party_270 : decode cX8_party 270 = .ok (.imul, 1) := by decide +kernel
theorem dX8_party_271 : decode cX8_party 271 = .ok (.aload_n 0, 1) := by decide +kernel
theorem dX8_party_272 : decode cX8_party 272 = .ok (.getfield 125, 3) := by decide +kernel
theorem dX8_party_275 : decode cX8_party 275 = .ok (.iadd, 1) := by decide +kernel
theorem dX8_party_276 : decode cX8_party 276 = .ok (.ireturn, 1) := by decide +kernel
theorem dX8_moment_0 : decode cX8_moment 0 = .ok (.iload_n 1, 1) := by decide +kernel
theorem dX8_moment_1 : decode cX8_moment 1 = .ok (.i2l, 1) := by decide +kernel
theorem dX8_moment_2 : decode cX8_moment 2 = .ok (.lconst 0, 1) := by decide +kernel
theorem dX8_moment_3 : decode cX8_moment 3 = .ok (.aload_n 0, 1) := by decide +kernel
theorem dX8_moment_4 : decode cX8_moment 4 = .ok (.getfield 74, 3) := by decide +kernel
theorem dX8_moment_7 : decode cX8_moment 7 = .ok (.iconst 1, 1) := by decide +kernel
theorem dX8_moment_8 : decode cX8_moment 8 = .ok (.isub, 1) := by decide +kernel
theorem dX8_moment_9 : decode cX8_moment 9 = .ok (.i2l, 1) := by decide +kernel
theorem dX8_moment_10 : decode cX8_moment 10 = .ok (.invokestatic 80, 3) := by decide +kernel
theorem dX8_moment_13 : decode cX8_moment 13 = .ok (.ifCond .eq 12, 3) := by decide +kernel
theorem dX8_moment_16 : decode cX8_moment 16 = .ok (.aload_n 0, 1) := by decide +kernel
theorem dX8_moment_17 : decode cX8_moment 17 = .ok (.getfield 7, 3) := by decide +kernel
theorem dX8_moment_20 : decode cX8_moment 20 = .ok (.iload_n 1, 1) := by decide +kernel
theorem dX8_moment_21 : decode cX8_moment 21 = .ok (.iaload, 1) := by decide +kernel
theorem dX8_moment_22 : decode cX8_moment 22 = .ok (.goto 5, 3) := by decide +kernel
theorem dX8_moment_25 : decode cX8_moment 25 = .ok (.bipush (-9), 2) := by decide +kernel
theorem dX8_moment_27 : decode cX8_moment 27 = .ok (.ireturn, 1) := by decide +kernel
theorem dX8_isCandle_0 : decode cX8_isCandle 0 = .ok (.iload_n 1, 1) := by decide +kernel
theorem dX8_isCandle_1 : decode cX8_isCandle 1 = .ok (.i2l, 1) := by decide +kernel
theorem dX8_isCandle_2 : decode cX8_isCandle 2 = .ok (.lconst 0, 1) := by decide +kernel
theorem dX8_isCandle_3 : decode cX8_isCandle 3 = .ok (.aload_n 0, 1) := by decide +kernel
theorem dX8_isCandle_4 : decode cX8_isCandle 4 = .ok (.getfield 122, 3) := by decide +kernel
theorem dX8_isCandle_7 : decode cX8_isCandle 7 = .ok (.iconst 1, 1) := by decide +kernel
theorem dX8_isCandle_8 : decode cX8_isCandle 8 = .ok (.isub, 1) := by decide +kernel
theorem dX8_isCandle_9 : decode cX8_isCandle 9 = .ok (.i2l, 1) := by decide +kernel
theorem dX8_isCandle_10 : decode cX8_isCandle 10 = .ok (.invokestatic 80, 3) := by decide +kernel
theorem dX8_isCandle_13 : decode cX8_isCandle 13 = .ok (.ireturn, 1) := by decide +kernel
theorem dX8_isGuest_0 : decode cX8_isGuest 0 = .ok (.iload_n 1, 1) := by decide +kernel
theorem dX8_isGuest_1 : decode cX8_isGuest 1 = .ok (.i2l, 1) := by decide +kernel
theorem dX8_isGuest_2 : decode cX8_isGuest 2 = .ok (.lconst 0, 1) := by decide +kernel
theorem dX8_isGuest_3 : decode cX8_isGuest 3 = .ok (.aload_n 0, 1) := by decide +kernel
theorem dX8_isGuest_4 : decode cX8_isGuest 4 = .ok (.getfield 125, 3) := by decide +kernel
theorem dX8_isGuest_7 : decode cX8_isGuest 7 = .ok (.iconst 1, 1) := by decide +kernel
theorem dX8_isGuest_8 : decode cX8_isGuest 8 = .ok (.isub, 1) := by decide +kernel
theorem dX8_isGuest_9 : decode cX8_isGuest 9 = .ok (.i2l, 1) := by decide +kernel
theorem dX8_isGuest_10 : decode cX8_isGuest 10 = .ok (.invokestatic 80, 3) := by decide +kernel
theorem dX8_isGuest_13 : decode cX8_isGuest 13 = .ok (.ireturn, 1) := by decide +kernel
theorem dX8_candle_0 : decode cX8_candle 0 = .ok (.aload_n 0, 1) := by decide +kernel
theorem dX8_candle_1 : decode cX8_candle 1 = .ok (.iload_n 1, 1) := by decide +kernel
theorem dX8_candle_2 : decode cX8_candle 2 = .ok (.invokevirtual 131, 3) := by decide +kernel
theorem dX8_candle_5 : decode cX8_candle 5 = .ok (.ifCond .ne 5, 3) := by decide +kernel
theorem dX8_candle_8 : decode cX8_candle 8 = .ok (.iconst (-1), 1) := by decide +kernel
theorem dX8_candle_9 : decode cX8_candle 9 = .ok (.ireturn, 1) := by decide +kernel
theorem dX8_candle_10 : decode cX8_candle 10 = .ok (.iload_n 2, 1) := by decide +kernel
theorem dX8_candle_11 : decode cX8_candle 11 = .ok (.tableswitch 78 0 3 #[29, 52, 61, 68], 29) := by decide +kernel
theorem dX8_candle_40 : decode cX8_candle 40 = .ok (.aload_n 0, 1) := by decide +kernel
theorem dX8_candle_41 : decode cX8_candle 41 = .ok (.getfield 34, 3) := by decide +kernel
theorem dX8_candle_44 : decode cX8_candle 44 = .ok (.iconst 4, 1) := by decide +kernel
theorem dX8_candle_45 : decode cX8_candle 45 = .ok (.iload_n 1, 1) := by decide +kernel
theorem dX8_candle_46 : decode cX8_candle 46 = .ok (.iadd, 1) := by decide +kernel
theorem dX8_candle_47 : decode cX8_candle 47 = .ok (.iaload, 1) := by decide +kernel
theorem dX8_candle_48 : decode cX8_candle 48 = .ok (.ifCond .le 12, 3) := by decide +kernel
theorem dX8_candle_51 : decode cX8_candle 51 = .ok (.aload_n 0, 1) := by decide +kernel
theorem dX8_candle_52 : decode cX8_candle 52 = .ok (.getfield 34, 3) := by decide +kernel
theorem dX8_candle_55 : decode cX8_candle 55 = .ok (.iload_n 1, 1) := by decide +kernel
theorem dX8_candle_56 : decode cX8_candle 56 = .ok (.iaload, 1) := by decide +kernel
theorem dX8_candle_57 : decode cX8_candle 57 = .ok (.goto 5, 3) := by decide +kernel
theorem dX8_candle_60 : decode cX8_candle 60 = .ok (.bipush (-9), 2) := by decide +kernel
theorem dX8_candle_62 : decode cX8_candle 62 = .ok (.ireturn, 1) := by decide +kernel
theorem dX8_candle_63 : decode cX8_candle 63 = .ok (.aload_n 0, 1) := by decide +kernel
theorem dX8_candle_64 : decode cX8_candle 64 = .ok (.getfield 34, 3) := by decide +kernel
theorem dX8_candle_67 : decode cX8_candle 67 = .ok (.iconst 4, 1) := by decide +kernel
theorem dX8_candle_68 : decode cX8_candle 68 = .ok (.iload_n 1, 1) := by decide +kernel
theorem dX8_candle_69 : decode cX8_candle 69 = .ok (.iadd, 1) := by decide +kernel
theorem dX8_candle_70 : decode cX8_candle 70 = .ok (.iaload, 1) := by decide +kernel
theorem dX8_candle_71 : decode cX8_candle 71 = .ok (.ireturn, 1) := by decide +kernel
theorem dX8_candle_72 : decode cX8_candle 72 = .ok (.aload_n 0, 1) := by decide +kernel
theorem dX8_candle_73 : decode cX8_candle 73 = .ok (.getfield 19, 3) := by decide +kernel
theorem dX8_candle_76 : decode cX8_candle 76 = .ok (.iload_n 1, 1) := by decide +kernel
theorem dX8_candle_77 : decode cX8_candle 77 = .ok (.iaload, 1) := by decide +kernel
theorem dX8_candle_78 : decode cX8_candle 78 = .ok (.ireturn, 1) := by decide +kernel
theorem dX8_candle_79 : decode cX8_candle 79 = .ok (.aload_n 0, 1) := by decide +kernel
theorem dX8_candle_80 : decode cX8_candle 80 = .ok (.getfield 34, 3) := by decide +kernel
theorem dX8_candle_83 : decode cX8_candle 83 = .ok (.bipush 8, 2) := by decide +kernel
theorem dX8_candle_85 : decode cX8_candle 85 = .ok (.iload_n 1, 1) := by decide +kernel
theorem dX8_candle_86 : decode cX8_candle 86 = .ok (.iadd, 1) := by decide +kernel
theorem dX8_candle_87 : decode cX8_candle 87 = .ok (.iaload, 1) := by decide +kernel
theorem dX8_candle_88 : decode cX8_candle 88 = .ok (.ireturn, 1) := by decide +kernel
theorem dX8_candle_89 : decode cX8_candle 89 = .ok (.bipush (-2), 2) := by decide +kernel
theorem dX8_candle_91 : decode cX8_candle 91 = .ok (.ireturn, 1) := by decide +kernel
theorem dX8_isContent_0 : decode cX8_isContent 0 = .ok (.aload_n 0, 1) := by decide +kernel
theorem dX8_isContent_1 : decode cX8_isContent 1 = .ok (.getfield 34, 3) := by decide +kernel
theorem dX8_isContent_4 : decode cX8_isContent 4 = .ok (.bipush 18, 2) := by decide +kernel
theorem dX8_isContent_6 : decode cX8_isContent 6 = .ok (.iload_n 1, 1) := by decide +kernel
theorem dX8_isContent_7 : decode cX8_isContent 7 = .ok (.imul, 1) := by decide +kernel
theorem dX8_isContent_8 : decode cX8_isContent 8 = .ok (.bipush 12, 2) := by decide +kernel
theorem dX8_isContent_10 : decode cX8_isContent 10 = .ok (.iadd, 1) := by decide +kernel
theorem dX8_isContent_11 : decode cX8_isContent 11 = .ok (.iload_n 2, 1) := by decide +kernel
theorem dX8_isContent_12 : decode cX8_isContent 12 = .ok (.iadd, 1) := by decide +kernel
theorem dX8_isContent_13 : decode cX8_isContent 13 = .ok (.iaload, 1) := by decide +kernel
theorem dX8_isContent_14 : decode cX8_isContent 14 = .ok (.aload_n 0, 1) := by decide +kernel
theorem dX8_isContent_15 : decode cX8_isContent 15 = .ok (.getfield 25, 3) := by decide +kernel
theorem dX8_isContent_18 : decode cX8_isContent 18 = .ok (.iload_n 2, 1) := by decide +kernel
theorem dX8_isContent_19 : decode cX8_isContent 19 = .ok (.iaload, 1) := by decide +kernel
theorem dX8_isContent_20 : decode cX8_isContent 20 = .ok (.if_icmp .lt 7, 3) := by decide +kernel
theorem dX8_isContent_23 : decode cX8_isContent 23 = .ok (.iconst 1, 1) := by decide +kernel
theorem dX8_isContent_24 : decode cX8_isContent 24 = .ok (.goto 4, 3) := by decide +kernel
theorem dX8_isContent_27 : decode cX8_isContent 27 = .ok (.iconst 0, 1) := by decide +kernel
theorem dX8_isContent_28 : decode cX8_isContent 28 = .ok (.ireturn, 1) := by decide +kernel
theorem dX8_guest_0 : decode cX8_guest 0 = .ok (.aload_n 0, 1) := by decide +kernel
theorem dX8_guest_1 : decode cX8_guest 1 = .ok (.iload_n 1, 1) := by decide +kernel
theorem dX8_guest_2 : decode cX8_guest 2 = .ok (.invokevirtual 135, 3) := by decide +kernel
theorem dX8_guest_5 : decode cX8_guest 5 = .ok (.ifCond .ne 5, 3) := by decide +kernel
theorem dX8_guest_8 : decode cX8_guest 8 = .ok (.iconst (-1), 1) := by decide +kernel
theorem dX8_guest_9 : decode cX8_guest 9 = .ok (.ireturn, 1) := by decide +kernel
theorem dX8_guest_10 : decode cX8_guest 10 = .ok (.iload_n 2, 1) := by decide +kernel
theorem dX8_guest_11 : decode cX8_guest 11 = .ok (.tableswitch 90 0 5 #[37, 44, 51, 58, 65, 75], 37) := by decide +kernel
theorem dX8_guest_48 : decode cX8_guest 48 = .ok (.aload_n 0, 1) := by decide +kernel
theorem dX8_guest_49 : decode cX8_guest 49 = .ok (.getfield 22, 3) := by decide +kernel
theorem dX8_guest_52 : decode cX8_guest 52 = .ok (.iload_n 1, 1) := by decide +kernel
theorem dX8_guest_53 : decode cX8_guest 53 = .ok (.iaload, 1) := by decide +kernel
theorem dX8_guest_54 : decode cX8_guest 54 = .ok (.ireturn, 1) := by decide +kernel
theorem dX8_guest_55 : decode cX8_guest 55 = .ok (.aload_n 0, 1) := by decide +kernel
theorem dX8_guest_56 : decode cX8_guest 56 = .ok (.getfield 25, 3) := by decide +kernel
theorem dX8_guest_59 : decode cX8_guest 59 = .ok (.iload_n 1, 1) := by decide +kernel
theorem dX8_guest_60 : decode cX8_guest 60 = .ok (.iaload, 1) := by decide +kernel
theorem dX8_guest_61 : decode cX8_guest 61 = .ok (.ireturn, 1) := by decide +kernel
theorem dX8_guest_62 : decode cX8_guest 62 = .ok (.aload_n 0, 1) := by decide +kernel
theorem dX8_guest_63 : decode cX8_guest 63 = .ok (.getfield 28, 3) := by decide +kernel
theorem dX8_guest_66 : decode cX8_guest 66 = .ok (.iload_n 1, 1) := by decide +kernel
theorem dX8_guest_67 : decode cX8_guest 67 = .ok (.iaload, 1) := by decide +kernel
theorem dX8_guest_68 : decode cX8_guest 68 = .ok (.ireturn, 1) := by decide +kernel
theorem dX8_guest_69 : decode cX8_guest 69 = .ok (.aload_n 0, 1) := by decide +kernel
theorem dX8_guest_70 : decode cX8_guest 70 = .ok (.getfield 31, 3) := by decide +kernel
theorem dX8_guest_73 : decode cX8_guest 73 = .ok (.iload_n 1, 1) := by decide +kernel
theorem dX8_guest_74 : decode cX8_guest 74 = .ok (.iaload, 1) := by decide +kernel
theorem dX8_guest_75 : decode cX8_guest 75 = .ok (.ireturn, 1) := by decide +kernel
theorem dX8_guest_76 : decode cX8_guest 76 = .ok (.aload_n 0, 1) := by decide +kernel
theorem dX8_guest_77 : decode cX8_guest 77 = .ok (.getfield 34, 3) := by decide +kernel
theorem dX8_guest_80 : decode cX8_guest 80 = .ok (.bipush 12, 2) := by decide +kernel
theorem dX8_guest_82 : decode cX8_guest 82 = .ok (.iload_n 1, 1) := by decide +kernel
theorem dX8_guest_83 : decode cX8_guest 83 = .ok (.iadd, 1) := by decide +kernel
theorem dX8_guest_84 : decode cX8_guest 84 = .ok (.iaload, 1) := by decide +kernel
theorem dX8_guest_85 : decode cX8_guest 85 = .ok (.ireturn, 1) := by decide +kernel
theorem dX8_guest_86 : decode cX8_guest 86 = .ok (.aload_n 0, 1) := by decide +kernel
theorem dX8_guest_87 : decode cX8_guest 87 = .ok (.iconst 0, 1) := by decide +kernel
theorem dX8_guest_88 : decode cX8_guest 88 = .ok (.iload_n 1, 1) := by decide +kernel
theorem dX8_guest_89 : decode cX8_guest 89 = .ok (.invokevirtual 138, 3) := by decide +kernel
theorem dX8_guest_92 : decode cX8_guest 92 = .ok (.ifCond .eq 7, 3) := by decide +kernel
theorem dX8_guest_95 : decode cX8_guest 95 = .ok (.iconst 1, 1) := by decide +kernel
theorem dX8_guest_96 : decode cX8_guest 96 = .ok (.goto 4, 3) := by decide +kernel
theorem dX8_guest_99 : decode cX8_guest 99 = .ok (.iconst 0, 1) := by decide +kernel
theorem dX8_guest_100 : decode cX8_guest 100 = .ok (.ireturn, 1) := by decide +kernel
theorem dX8_guest_101 : decode cX8_guest 101 = .ok (.bipush (-2), 2) := by decide +kernel
theorem dX8_guest_103 : decode cX8_guest 103 = .ok (.ireturn, 1) := by decide +kernel
theorem dX8_pass_0 : decode cX8_pass 0 = .ok (.bipush 18, 2) := by decide +kernel
theorem dX8_pass_2 : decode cX8_pass 2 = .ok (.iload_n 1, 1) := by decide +kernel
theorem dX8_pass_3 : decode cX8_pass 3 = .ok (.imul, 1) := by decide +kernel
theorem dX8_pass_4 : decode cX8_pass 4 = .ok (.istore_n 2, 1) := by decide +kernel
theorem dX8_pass_5 : decode cX8_pass 5 = .ok (.iconst 0, 1) := by decide +kernel
theorem dX8_pass_6 : decode cX8_pass 6 = .ok (.istore_n 3, 1) := by decide +kernel
theorem dX8_pass_7 : decode cX8_pass 7 = .ok (.iconst 0, 1) := by decide +kernel
theorem dX8_pass_8 : decode cX8_pass 8 = .ok (.istore 4, 2) := by decide +kernel
theorem dX8_pass_10 : decode cX8_pass 10 = .ok (.iload 4, 2) := by decide +kernel
theorem dX8_pass_12 : decode cX8_pass 12 = .ok (.aload_n 0, 1) := by decide +kernel
theorem dX8_pass_13 : decode cX8_pass 13 = .ok (.getfield 122, 3) := by decide +kernel
theorem dX8_pass_16 : decode cX8_pass 16 = .ok (.if_icmp .ge 122, 3) := by decide +kernel
theorem dX8_pass_19 : decode cX8_pass 19 = .ok (.aload_n 0, 1) := by decide +kernel
theorem dX8_pass_20 : decode cX8_pass 20 = .ok (.getfield 34, 3) := by decide +kernel
theorem dX8_pass_23 : decode cX8_pass 23 = .ok (.iload_n 2, 1) := by decide +kernel
theorem dX8_pass_24 : decode cX8_pass 24 = .ok (.bipush 8, 2) := by decide +kernel
theorem dX8_pass_26 : decode cX8_pass 26 = .ok (.iadd, 1) := by decide +kernel
theorem dX8_pass_27 : decode cX8_pass 27 = .ok (.iload 4, 2) := by decide +kernel
theorem dX8_pass_29 : decode cX8_pass 29 = .ok (.iadd, 1) := by decide +kernel
theorem dX8_pass_30 : decode cX8_pass 30 = .ok (.iaload, 1) := by decide +kernel
theorem dX8_pass_31 : decode cX8_pass 31 = .ok (.iconst 1, 1) := by decide +kernel
theorem dX8_pass_32 : decode cX8_pass 32 = .ok (.if_icmp .ne 100, 3) := by decide +kernel
theorem dX8_pass_35 : decode cX8_pass 35 = .ok (.iload_n 3, 1) := by decide +kernel
theorem dX8_pass_36 : decode cX8_pass 36 = .ok (.iconst 1, 1) := by decide +kernel
theorem dX8_pass_37 : decode cX8_pass 37 = .ok (.aload_n 0, 1) := by decide +kernel
theorem dX8_pass_38 : decode cX8_pass 38 = .ok (.getfield 7, 3) := by decide +kernel
theorem dX8_pass_41 : decode cX8_pass 41 = .ok (.aload_n 0, 1) := by decide +kernel
theorem dX8_pass_42 : decode cX8_pass 42 = .ok (.getfield 34, 3) := by decide +kernel
theorem dX8_pass_45 : decode cX8_pass 45 = .ok (.iload_n 2, 1) := by decide +kernel
theorem dX8_pass_46 : decode cX8_pass 46 = .ok (.iload 4, 2) := by decide +kernel
theorem dX8_pass_48 : decode cX8_pass 48 = .ok (.iadd, 1) := by decide +kernel
theorem dX8_pass_49 : decode cX8_pass 49 = .ok (.iaload, 1) := by decide +kernel
theorem dX8_pass_50 : decode cX8_pass 50 = .ok (.iaload, 1) := by decide +kernel
theorem dX8_pass_51 : decode cX8_pass 51 = .ok (.ishl, 1) := by decide +kernel
theorem dX8_pass_52 : decode cX8_pass 52 = .ok (.ior, 1) := by decide +kernel
theorem dX8_pass_53 : decode cX8_pass 53 = .ok (.istore_n 3, 1) := by decide +kernel
theorem dX8_pass_54 : decode cX8_pass 54 = .ok (.aload_n 0, 1) := by decide +kernel
theorem dX8_pass_55 : decode cX8_pass 55 = .ok (.getfield 34, 3) := by decide +kernel
theorem dX8_pass_58 : decode cX8_pass 58 = .ok (.iload_n 2, 1) := by decide +kernel
theorem dX8_pass_59 : decode cX8_pass 59 = .ok (.iload 4, 2) := by decide +kernel
theorem dX8_pass_61 : decode cX8_pass 61 = .ok (.iadd, 1) := by decide +kernel
theorem dX8_pass_62 : decode cX8_pass 62 = .ok (.dup2, 1) := by decide +kernel
theorem dX8_pass_63 : decode cX8_pass 63 = .ok (.iaload, 1) := by decide +kernel
theorem dX8_pass_64 : decode cX8_pass 64 = .ok (.iconst 1, 1) := by decide +kernel
theorem dX8_pass_65 : decode cX8_pass 65 = .ok (.iadd, 1) := by decide +kernel
theorem dX8_pass_66 : decode cX8_pass 66 = .ok (.iastore, 1) := by decide +kernel
theorem dX8_pass_67 : decode cX8_pass 67 = .ok (.aload_n 0, 1) := by decide +kernel
theorem dX8_pass_68 : decode cX8_pass 68 = .ok (.getfield 34, 3) := by decide +kernel
theorem dX8_pass_71 : decode cX8_pass 71 = .ok (.iload_n 2, 1) := by decide +kernel
theorem dX8_pass_72 : decode cX8_pass 72 = .ok (.iconst 4, 1) := by decide +kernel
theorem dX8_pass_73 : decode cX8_pass 73 = .ok (.iadd, 1) := by decide +kernel
theorem dX8_pass_74 : decode cX8_pass 74 = .ok (.iload 4, 2) := by decide +kernel
theorem dX8_pass_76 : decode cX8_pass 76 = .ok (.iadd, 1) := by decide +kernel
theorem dX8_pass_77 : decode cX8_pass 77 = .ok (.dup2, 1) := by decide +kernel
theorem dX8_pass_78 : decode cX8_pass 78 = .ok (.iaload, 1) := by decide +kernel
theorem dX8_pass_79 : decode cX8_pass 79 = .ok (.iconst 1, 1) := by decide +kernel
theorem dX8_pass_80 : decode cX8_pass 80 = .ok (.isub, 1) := by decide +kernel
theorem dX8_pass_81 : decode cX8_pass 81 = .ok (.iastore, 1) := by decide +kernel
theorem dX8_pass_82 : decode cX8_pass 82 = .ok (.aload_n 0, 1) := by decide +kernel
theorem dX8_pass_83 : decode cX8_pass 83 = .ok (.getfield 34, 3) := by decide +kernel
theorem dX8_pass_86 : decode cX8_pass 86 = .ok (.iload_n 2, 1) := by decide +kernel
theorem dX8_pass_87 : decode cX8_pass 87 = .ok (.bipush 16, 2) := by decide +kernel
theorem dX8_pass_89 : decode cX8_pass 89 = .ok (.iadd, 1) := by decide +kernel
theorem dX8_pass_90 : decode cX8_pass 90 = .ok (.dup2, 1) := by decide +kernel
theorem dX8_pass_91 : decode cX8_pass 91 = .ok (.iaload, 1) := by decide +kernel
theorem dX8_pass_92 : decode cX8_pass 92 = .ok (.aload_n 0, 1) := by decide +kernel
theorem dX8_pass_93 : decode cX8_pass 93 = .ok (.getfield 19, 3) := by decide +kernel
theorem dX8_pass_96 : decode cX8_pass 96 = .ok (.iload 4, 2) := by decide +kernel
theorem dX8_pass_98 : decode cX8_pass 98 = .ok (.iaload, 1) := by decide +kernel
theorem dX8_pass_99 : decode cX8_pass 99 = .ok (.iadd, 1) := by decide +kernel
theorem dX8_pass_100 : decode cX8_pass 100 = .ok (.iastore, 1) := by decide +kernel
theorem dX8_pass_101 : decode cX8_pass 101 = .ok (.aload_n 0, 1) := by decide +kernel
theorem dX8_pass_102 : decode cX8_pass 102 = .ok (.getfield 34, 3) := by decide +kernel
theorem dX8_pass_105 : decode cX8_pass 105 = .ok (.iload_n 2, 1) := by decide +kernel
theorem dX8_pass_106 : decode cX8_pass 106 = .ok (.bipush 8, 2) := by decide +kernel
theorem dX8_pass_108 : decode cX8_pass 108 = .ok (.iadd, 1) := by decide +kernel
theorem dX8_pass_109 : decode cX8_pass 109 = .ok (.iload 4, 2) := by decide +kernel
theorem dX8_pass_111 : decode cX8_pass 111 = .ok (.iadd, 1) := by decide +kernel
theorem dX8_pass_112 : decode cX8_pass 112 = .ok (.aload_n 0, 1) := by decide +kernel
theorem dX8_pass_113 : decode cX8_pass 113 = .ok (.getfield 34, 3) := by decide +kernel
theorem dX8_pass_116 : decode cX8_pass 116 = .ok (.iload_n 2, 1) := by decide +kernel
theorem dX8_pass_117 : decode cX8_pass 117 = .ok (.iconst 4, 1) := by decide +kernel
theorem dX8_pass_118 : decode cX8_pass 118 = .ok (.iadd, 1) := by decide +kernel
theorem dX8_pass_119 : decode cX8_pass 119 = .ok (.iload 4, 2) := by decide +kernel
theorem dX8_pass_121 : decode cX8_pass 121 = .ok (.iadd, 1) := by decide +kernel
theorem dX8_pass_122 : decode cX8_pass 122 = .ok (.iaload, 1) := by decide +kernel
theorem dX8_pass_123 : decode cX8_pass 123 = .ok (.ifCond .ne 7, 3) := by decide +kernel
theorem dX8_pass_126 : decode cX8_pass 126 = .ok (.iconst 2, 1) := by decide +kernel
theorem dX8_pass_127 : decode cX8_pass 127 = .ok (.goto 4, 3) := by decide +kernel
theorem dX8_pass_130 : decode cX8_pass 130 = .ok (.iconst 1, 1) := by decide +kernel
theorem dX8_pass_131 : decode cX8_pass 131 = .ok (.iastore, 1) := by decide +kernel
theorem dX8_pass_132 : decode cX8_pass 132 = .ok (.iinc 4 1, 3) := by decide +kernel
theorem dX8_pass_135 : decode cX8_pass 135 = .ok (.goto (-125), 3) := by decide +kernel
theorem dX8_pass_138 : decode cX8_pass 138 = .ok (.iconst 0, 1) := by decide +kernel
theorem dX8_pass_139 : decode cX8_pass 139 = .ok (.istore 4, 2) := by decide +kernel
theorem dX8_pass_141 : decode cX8_pass 141 = .ok (.iconst 0, 1) := by decide +kernel
theorem dX8_pass_142 : decode cX8_pass 142 = .ok (.istore 5, 2) := by decide +kernel
theorem dX8_pass_144 : decode cX8_pass 144 = .ok (.iload 5, 2) := by decide +kernel
theorem dX8_pass_146 : decode cX8_pass 146 = .ok (.aload_n 0, 1) := by decide +kernel
theorem dX8_pass_147 : decode cX8_pass 147 = .ok (.getfield 125, 3) := by decide +kernel
theorem dX8_pass_150 : decode cX8_pass 150 = .ok (.if_icmp .ge 105, 3) := by decide +kernel
theorem dX8_pass_153 : decode cX8_pass 153 = .ok (.aload_n 0, 1) := by decide +kernel
theorem dX8_pass_154 : decode cX8_pass 154 = .ok (.getfield 34, 3) := by decide +kernel
theorem dX8_pass_157 : decode cX8_pass 157 = .ok (.iload_n 2, 1) := by decide +kernel
theorem dX8_pass_158 : decode cX8_pass 158 = .ok (.bipush 17, 2) := by decide +kernel
theorem dX8_pass_160 : decode cX8_pass 160 = .ok (.iadd, 1) := by decide +kernel
theorem dX8_pass_161 : decode cX8_pass 161 = .ok (.iaload, 1) := by decide +kernel
theorem dX8_pass_162 : decode cX8_pass 162 = .ok (.i2l, 1) := by decide +kernel
theorem dX8_pass_163 : decode cX8_pass 163 = .ok (.aload_n 0, 1) := by decide +kernel
theorem dX8_pass_164 : decode cX8_pass 164 = .ok (.getfield 28, 3) := by decide +kernel
theorem dX8_pass_167 : decode cX8_pass 167 = .ok (.iload 5, 2) := by decide +kernel
theorem dX8_pass_169 : decode cX8_pass 169 = .ok (.iaload, 1) := by decide +kernel
theorem dX8_pass_170 : decode cX8_pass 170 = .ok (.i2l, 1) := by decide +kernel
theorem dX8_pass_171 : decode cX8_pass 171 = .ok (.aload_n 0, 1) := by decide +kernel
theorem dX8_pass_172 : decode cX8_pass 172 = .ok (.getfield 31, 3) := by decide +kernel
theorem dX8_pass_175 : decode cX8_pass 175 = .ok (.iload 5, 2) := by decide +kernel
theorem dX8_pass_177 : decode cX8_pass 177 = .ok (.iaload, 1) := by decide +kernel
theorem dX8_pass_178 : decode cX8_pass 178 = .ok (.i2l, 1) := by decide +kernel
theorem dX8_pass_179 : decode cX8_pass 179 = .ok (.invokestatic 80, 3) := by decide +kernel
theorem dX8_pass_182 : decode cX8_pass 182 = .ok (.ifCond .eq 21, 3) := by decide +kernel
theorem dX8_pass_185 : decode cX8_pass 185 = .ok (.iload_n 3, 1) := by decide +kernel
theorem dX8_pass_186 : decode cX8_pass 186 = .ok (.aload_n 0, 1) := by decide +kernel
theorem dX8_pass_187 : decode cX8_pass 187 = .ok (.getfield 22, 3) := by decide +kernel
theorem dX8_pass_190 : decode cX8_pass 190 = .ok (.iload 5, 2) := by decide +kernel
theorem dX8_pass_192 : decode cX8_pass 192 = .ok (.iaload, 1) := by decide +kernel
theorem dX8_pass_193 : decode cX8_pass 193 = .ok (.invokestatic 142, 3) := by decide +kernel
theorem dX8_pass_196 : decode cX8_pass 196 = .ok (.ifCond .eq 7, 3) := by decide +kernel
theorem dX8_pass_199 : decode cX8_pass 199 = .ok (.iconst 1, 1) := by decide +kernel
theorem dX8_pass_200 : decode cX8_pass 200 = .ok (.goto 4, 3) := by decide +kernel
theorem dX8_pass_203 : decode cX8_pass 203 = .ok (.iconst 0, 1) := by decide +kernel
theorem dX8_pass_204 : decode cX8_pass 204 = .ok (.istore 6, 2) := by decide +kernel
theorem dX8_pass_206 : decode cX8_pass 206 = .ok (.aload_n 0, 1) := by decide +kernel
theorem dX8_pass_207 : decode cX8_pass 207 = .ok (.getfield 34, 3) := by decide +kernel
theorem dX8_pass_210 : decode cX8_pass 210 = .ok (.iload_n 2, 1) := by decide +kernel
theorem dX8_pass_211 : decode cX8_pass 211 = .ok (.bipush 12, 2) := by decide +kernel
theorem dX8_pass_213 : decode cX8_pass 213 = .ok (.iadd, 1) := by decide +kernel
theorem dX8_pass_214 : decode cX8_pass 214 = .ok (.iload 5, 2) := by decide +kernel
theorem dX8_pass_216 : decode cX8_pass 216 = .ok (.iadd, 1) := by decide +kernel
theorem dX8_pass_217 : decode cX8_pass 217 = .ok (.dup2, 1) := by decide +kernel
theorem dX8_pass_218 : decode cX8_pass 218 = .ok (.iaload, 1) := by decide +kernel
theorem dX8_pass_219 : decode cX8_pass 219 = .ok (.iload 6, 2) := by decide +kernel
theorem dX8_pass_221 : decode cX8_pass 221 = .ok (.ifCond .eq 7, 3) := by decide +kernel
theorem dX8_pass_224 : decode cX8_pass 224 = .ok (.iconst 1, 1) := by decide +kernel
theorem dX8_pass_225 : decode cX8_pass 225 = .ok (.goto 4, 3) := by decide +kernel
theorem dX8_pass_228 : decode cX8_pass 228 = .ok (.iconst 0, 1) := by decide +kernel
theorem dX8_pass_229 : decode cX8_pass 229 = .ok (.iadd, 1) := by decide +kernel
theorem dX8_pass_230 : decode cX8_pass 230 = .ok (.iastore, 1) := by decide +kernel
theorem dX8_pass_231 : decode cX8_pass 231 = .ok (.iload 4, 2) := by decide +kernel
theorem dX8_pass_233 : decode cX8_pass 233 = .ok (.iload 6, 2) := by decide +kernel
theorem dX8_pass_235 : decode cX8_pass 235 = .ok (.ifCond .eq 10, 3) := by decide +kernel
theorem dX8_pass_238 : decode cX8_pass 238 = .ok (.iconst 1, 1) := by decide +kernel
theorem dX8_pass_239 : decode cX8_pass 239 = .ok (.iload 5, 2) := by decide +kernel
theorem dX8_pass_241 : decode cX8_pass 241 = .ok (.ishl, 1) := by decide +kernel
theorem dX8_pass_242 : decode cX8_pass 242 = .ok (.goto 4, 3) := by decide +kernel
theorem dX8_pass_245 : decode cX8_pass 245 = .ok (.iconst 0, 1) := by decide +kernel
theorem dX8_pass_246 : decode cX8_pass 246 = .ok (.ior, 1) := by decide +kernel
theorem dX8_pass_247 : decode cX8_pass 247 = .ok (.istore 4, 2) := by decide +kernel
theorem dX8_pass_249 : decode cX8_pass 249 = .ok (.iinc 5 1, 3) := by decide +kernel
theorem dX8_pass_252 : decode cX8_pass 252 = .ok (.goto (-108), 3) := by decide +kernel
theorem dX8_pass_255 : decode cX8_pass 255 = .ok (.aload_n 0, 1) := by decide +kernel
theorem dX8_pass_256 : decode cX8_pass 256 = .ok (.getfield 34, 3) := by decide +kernel
theorem dX8_pass_259 : decode cX8_pass 259 = .ok (.iload_n 2, 1) := by decide +kernel
theorem dX8_pass_260 : decode cX8_pass 260 = .ok (.bipush 17, 2) := by decide +kernel
theorem dX8_pass_262 : decode cX8_pass 262 = .ok (.iadd, 1) := by decide +kernel
theorem dX8_pass_263 : decode cX8_pass 263 = .ok (.dup2, 1) := by decide +kernel
theorem dX8_pass_264 : decode cX8_pass 264 = .ok (.iaload, 1) := by decide +kernel
theorem dX8_pass_265 : decode cX8_pass 265 = .ok (.iconst 1, 1) := by decide +kernel
theorem dX8_pass_266 : decode cX8_pass 266 = .ok (.iadd, 1) := by decide +kernel
theorem dX8_pass_267 : decode cX8_pass 267 = .ok (.iastore, 1) := by decide +kernel
theorem dX8_pass_268 : decode cX8_pass 268 = .ok (.iload 4, 2) := by decide +kernel
theorem dX8_pass_270 : decode cX8_pass 270 = .ok (.ireturn, 1) := by decide +kernel
theorem dX8_burning_0 : decode cX8_burning 0 = .ok (.iconst 0, 1) := by decide +kernel
theorem dX8_burning_1 : decode cX8_burning 1 = .ok (.istore_n 2, 1) := by decide +kernel
theorem dX8_burning_2 : decode cX8_burning 2 = .ok (.iconst 0, 1) := by decide +kernel
theorem dX8_burning_3 : decode cX8_burning 3 = .ok (.istore_n 3, 1) := by decide +kernel
theorem dX8_burning_4 : decode cX8_burning 4 = .ok (.iload_n 3, 1) := by decide +kernel
theorem dX8_burning_5 : decode cX8_burning 5 = .ok (.aload_n 0, 1) := by decide +kernel
theorem dX8_burning_6 : decode cX8_burning 6 = .ok (.getfield 122, 3) := by decide +kernel
theorem dX8_burning_9 : decode cX8_burning 9 = .ok (.if_icmp .ge 35, 3) := by decide +kernel
theorem dX8_burning_12 : decode cX8_burning 12 = .ok (.iload_n 2, 1) := by decide +kernel
theorem dX8_burning_13 : decode cX8_burning 13 = .ok (.aload_n 0, 1) := by decide +kernel
theorem dX8_burning_14 : decode cX8_burning 14 = .ok (.getfield 34, 3) := by decide +kernel
theorem dX8_burning_17 : decode cX8_burning 17 = .ok (.bipush 18, 2) := by decide +kernel
theorem dX8_burning_19 : decode cX8_burning 19 = .ok (.iload_n 1, 1) := by decide +kernel
theorem dX8_burning_20 : decode cX8_burning 20 = .ok (.imul, 1) := by decide +kernel
theorem dX8_burning_21 : decode cX8_burning 21 = .ok (.bipush 8, 2) := by decide +kernel
theorem dX8_burning_23 : decode cX8_burning 23 = .ok (.iadd, 1) := by decide +kernel
theorem dX8_burning_24 : decode cX8_burning 24 = .ok (.iload_n 3, 1) := by decide +kernel
theorem dX8_burning_25 : decode cX8_burning 25 = .ok (.iadd, 1) := by decide +kernel
theorem dX8_burning_26 : decode cX8_burning 26 = .ok (.iaload, 1) := by decide +kernel
theorem dX8_burning_27 : decode cX8_burning 27 = .ok (.iconst 1, 1) := by decide +kernel
theorem dX8_burning_28 : decode cX8_burning 28 = .ok (.if_icmp .ne 7, 3) := by decide +kernel
theorem dX8_burning_31 : decode cX8_burning 31 = .ok (.iconst 1, 1) := by decide +kernel
theorem dX8_burning_32 : decode cX8_burning 32 = .ok (.goto 4, 3) := by decide +kernel
theorem dX8_burning_35 : decode cX8_burning 35 = .ok (.iconst 0, 1) := by decide +kernel
theorem dX8_burning_36 : decode cX8_burning 36 = .ok (.iadd, 1) := by decide +kernel
theorem dX8_burning_37 : decode cX8_burning 37 = .ok (.istore_n 2, 1) := by decide +kernel
theorem dX8_burning_38 : decode cX8_burning 38 = .ok (.iinc 3 1, 3) := by decide +kernel
theorem dX8_burning_41 : decode cX8_burning 41 = .ok (.goto (-37), 3) := by decide +kernel
theorem dX8_burning_44 : decode cX8_burning 44 = .ok (.iload_n 2, 1) := by decide +kernel
theorem dX8_burning_45 : decode cX8_burning 45 = .ok (.ireturn, 1) := by decide +kernel
theorem dX8_lay_0 : decode cX8_lay 0 = .ok (.iconst 0, 1) := by decide +kernel
theorem dX8_lay_1 : decode cX8_lay 1 = .ok (.istore_n 3, 1) := by decide +kernel
theorem dX8_lay_2 : decode cX8_lay 2 = .ok (.iload_n 3, 1) := by decide +kernel
theorem dX8_lay_3 : decode cX8_lay 3 = .ok (.bipush 18, 2) := by decide +kernel
theorem dX8_lay_5 : decode cX8_lay 5 = .ok (.if_icmp .ge 31, 3) := by decide +kernel
theorem dX8_lay_8 : decode cX8_lay 8 = .ok (.aload_n 0, 1) := by decide +kernel
theorem dX8_lay_9 : decode cX8_lay 9 = .ok (.getfield 34, 3) := by decide +kernel
theorem dX8_lay_12 : decode cX8_lay 12 = .ok (.bipush 18, 2) := by decide +kernel
theorem dX8_lay_14 : decode cX8_lay 14 = .ok (.iload_n 2, 1) := by decide +kernel
theorem dX8_lay_15 : decode cX8_lay 15 = .ok (.imul, 1) := by decide +kernel
theorem dX8_lay_16 : decode cX8_lay 16 = .ok (.iload_n 3, 1) := by decide +kernel
theorem dX8_lay_17 : decode cX8_lay 17 = .ok (.iadd, 1) := by decide +kernel
theorem dX8_lay_18 : decode cX8_lay 18 = .ok (.aload_n 0, 1) := by decide +kernel
theorem dX8_lay_19 : decode cX8_lay 19 = .ok (.getfield 34, 3) := by decide +kernel
theorem dX8_lay_22 : decode cX8_lay 22 = .ok (.bipush 18, 2) := by decide +kernel
theorem dX8_lay_24 : decode cX8_lay 24 = .ok (.iload_n 1, 1) := by decide +kernel
theorem dX8_lay_25 : decode cX8_lay 25 = .ok (.imul, 1) := by decide +kernel
theorem dX8_lay_26 : decode cX8_lay 26 = .ok (.iload_n 3, 1) := by decide +kernel
theorem dX8_lay_27 : decode cX8_lay 27 = .ok (.iadd, 1) := by decide +kernel
theorem dX8_lay_28 : decode cX8_lay 28 = .ok (.iaload, 1) := by decide +kernel
theorem dX8_lay_29 : decode cX8_lay 29 = .ok (.iastore, 1) := by decide +kernel
theorem dX8_lay_30 : decode cX8_lay 30 = .ok (.iinc 3 1, 3) := by decide +kernel
theorem dX8_lay_33 : decode cX8_lay 33 = .ok (.goto (-31), 3) := by decide +kernel
theorem dX8_lay_36 : decode cX8_lay 36 = .ok (.return_, 1) := by decide +kernel
theorem dX8_keepAct_0 : decode cX8_keepAct 0 = .ok (.iconst 0, 1) := by decide +kernel
theorem dX8_keepAct_1 : decode cX8_keepAct 1 = .ok (.istore_n 1, 1) := by decide +kernel
theorem dX8_keepAct_2 : decode cX8_keepAct 2 = .ok (.iload_n 1, 1) := by decide +kernel
theorem dX8_keepAct_3 : decode cX8_keepAct 3 = .ok (.bipush 18, 2) := by decide +kernel
theorem dX8_keepAct_5 : decode cX8_keepAct 5 = .ok (.if_icmp .ge 29, 3) := by decide +kernel
theorem dX8_keepAct_8 : decode cX8_keepAct 8 = .ok (.aload_n 0, 1) := by decide +kernel
theorem dX8_keepAct_9 : decode cX8_keepAct 9 = .ok (.getfield 49, 3) := by decide +kernel
theorem dX8_keepAct_12 : decode cX8_keepAct 12 = .ok (.bipush 18, 2) := by decide +kernel
theorem dX8_keepAct_14 : decode cX8_keepAct 14 = .ok (.aload_n 0, 1) := by decide +kernel
theorem dX8_keepAct_15 : decode cX8_keepAct 15 = .ok (.getfield 145, 3) := by decide +kernel
theorem dX8_keepAct_18 : decode cX8_keepAct 18 = .ok (.imul, 1) := by decide +kernel
theorem dX8_keepAct_19 : decode cX8_keepAct 19 = .ok (.iload_n 1, 1) := by decide +kernel
theorem dX8_keepAct_20 : decode cX8_keepAct 20 = .ok (.iadd, 1) := by decide +kernel
theorem dX8_keepAct_21 : decode cX8_keepAct 21 = .ok (.aload_n 0, 1) := by decide +kernel
theorem dX8_keepAct_22 : decode cX8_keepAct 22 = .ok (.getfield 34, 3) := by decide +kernel
theorem dX8_keepAct_25 : decode cX8_keepAct 25 = .ok (.iload_n 1, 1) := by decide +kernel
theorem dX8_keepAct_26 : decode cX8_keepAct 26 = .ok (.iaload, 1) := by decide +kernel
theorem dX8_keepAct_27 : decode cX8_keepAct 27 = .ok (.iastore, 1) := by decide +kernel
theorem dX8_keepAct_28 : decode cX8_keepAct 28 = .ok (.iinc 1 1, 3) := by decide +kernel
theorem dX8_keepAct_31 : decode cX8_keepAct 31 = .ok (.goto (-29), 3) := by decide +kernel
theorem dX8_keepAct_34 : decode cX8_keepAct 34 = .ok (.aload_n 0, 1) := by decide +kernel
theorem dX8_keepAct_35 : decode cX8_keepAct 35 = .ok (.aload_n 0, 1) := by decide +kernel
theorem dX8_keepAct_36 : decode cX8_keepAct 36 = .ok (.getfield 145, 3) := by decide +kernel
theorem dX8_keepAct_39 : decode cX8_keepAct 39 = .ok (.iconst 1, 1) := by decide +kernel
theorem dX8_keepAct_40 : decode cX8_keepAct 40 = .ok (.iadd, 1) := by decide +kernel
theorem dX8_keepAct_41 : decode cX8_keepAct 41 = .ok (.bipush 16, 2) := by decide +kernel
theorem dX8_keepAct_43 : decode cX8_keepAct 43 = .ok (.irem, 1) := by decide +kernel
theorem dX8_keepAct_44 : decode cX8_keepAct 44 = .ok (.putfield 145, 3) := by decide +kernel
theorem dX8_keepAct_47 : decode cX8_keepAct 47 = .ok (.aload_n 0, 1) := by decide +kernel
theorem dX8_keepAct_48 : decode cX8_keepAct 48 = .ok (.aload_n 0, 1) := by decide +kernel
theorem dX8_keepAct_49 : decode cX8_keepAct 49 = .ok (.getfield 128, 3) := by decide +kernel
theorem dX8_keepAct_52 : decode cX8_keepAct 52 = .ok (.bipush 16, 2) := by decide +kernel
theorem dX8_keepAct_54 : decode cX8_keepAct 54 = .ok (.if_icmp .ge 12, 3) := by decide +kernel
theorem dX8_keepAct_57 : decode cX8_keepAct 57 = .ok (.aload_n 0, 1) := by decide +kernel
theorem dX8_keepAct_58 : decode cX8_keepAct 58 = .ok (.getfield 128, 3) := by decide +kernel
theorem dX8_keepAct_61 : decode cX8_keepAct 61 = .ok (.iconst 1, 1) := by decide +kernel
theorem dX8_keepAct_62 : decode cX8_keepAct 62 = .ok (.iadd, 1) := by decide +kernel
theorem dX8_keepAct_63 : decode cX8_keepAct 63 = .ok (.goto 5, 3) := by decide +kernel
theorem dX8_keepAct_66 : decode cX8_keepAct 66 = .ok (.bipush 16, 2) := by decide +kernel
theorem dX8_keepAct_68 : decode cX8_keepAct 68 = .ok (.putfield 128, 3) := by decide +kernel
theorem dX8_keepAct_71 : decode cX8_keepAct 71 = .ok (.return_, 1) := by decide +kernel
theorem dX8_light_0 : decode cX8_light 0 = .ok (.aload_n 0, 1) := by decide +kernel
theorem dX8_light_1 : decode cX8_light 1 = .ok (.iload_n 1, 1) := by decide +kernel
theorem dX8_light_2 : decode cX8_light 2 = .ok (.invokevirtual 131, 3) := by decide +kernel
theorem dX8_light_5 : decode cX8_light 5 = .ok (.ifCond .ne 5, 3) := by decide +kernel
theorem dX8_light_8 : decode cX8_light 8 = .ok (.iconst (-1), 1) := by decide +kernel
theorem dX8_light_9 : decode cX8_light 9 = .ok (.ireturn, 1) := by decide +kernel
theorem dX8_light_10 : decode cX8_light 10 = .ok (.aload_n 0, 1) := by decide +kernel
theorem dX8_light_11 : decode cX8_light 11 = .ok (.getfield 34, 3) := by decide +kernel
theorem dX8_light_14 : decode cX8_light 14 = .ok (.bipush 8, 2) := by decide +kernel
theorem dX8_light_16 : decode cX8_light 16 = .ok (.iload_n 1, 1) := by decide +kernel
theorem dX8_light_17 : decode cX8_light 17 = .ok (.iadd, 1) := by decide +kernel
theorem dX8_light_18 : decode cX8_light 18 = .ok (.iaload, 1) := by decide +kernel
theorem dX8_light_19 : decode cX8_light 19 = .ok (.ifCond .eq 6, 3) := by decide +kernel
theorem dX8_light_22 : decode cX8_light 22 = .ok (.bipush (-3), 2) := by decide +kernel
theorem dX8_light_24 : decode cX8_light 24 = .ok (.ireturn, 1) := by decide +kernel
theorem dX8_light_25 : decode cX8_light 25 = .ok (.aload_n 0, 1) := by decide +kernel
theorem dX8_light_26 : decode cX8_light 26 = .ok (.invokevirtual 148, 3) := by decide +kernel
theorem dX8_light_29 : decode cX8_light 29 = .ok (.aload_n 0, 1) := by decide +kernel
theorem dX8_light_30 : decode cX8_light 30 = .ok (.getfield 34, 3) := by decide +kernel
theorem dX8_light_33 : decode cX8_light 33 = .ok (.bipush 8, 2) := by decide +kernel
theorem dX8_light_35 : decode cX8_light 35 = .ok (.iload_n 1, 1) := by decide +kernel
theorem dX8_light_36 : decode cX8_light 36 = .ok (.iadd, 1) := by decide +kernel
theorem dX8_light_37 : decode cX8_light 37 = .ok (.iconst 1, 1) := by decide +kernel
theorem dX8_light_38 : decode cX8_light 38 = .ok (.iastore, 1) := by decide +kernel
theorem dX8_light_39 : decode cX8_light 39 = .ok (.aload_n 0, 1) := by decide +kernel
theorem dX8_light_40 : decode cX8_light 40 = .ok (.iconst 0, 1) := by decide +kernel
theorem dX8_light_41 : decode cX8_light 41 = .ok (.invokevirtual 151, 3) := by decide +kernel
theorem dX8_light_44 : decode cX8_light 44 = .ok (.ireturn, 1) := by decide +kernel
theorem dX8_out_0 : decode cX8_out 0 = .ok (.aload_n 0, 1) := by decide +kernel
theorem dX8_out_1 : decode cX8_out 1 = .ok (.iload_n 1, 1) := by decide +kernel
theorem dX8_out_2 : decode cX8_out 2 = .ok (.invokevirtual 131, 3) := by decide +kernel
theorem dX8_out_5 : decode cX8_out 5 = .ok (.ifCond .ne 5, 3) := by decide +kernel
theorem dX8_out_8 : decode cX8_out 8 = .ok (.iconst (-1), 1) := by decide +kernel
theorem dX8_out_9 : decode cX8_out 9 = .ok (.ireturn, 1) := by decide +kernel
theorem dX8_out_10 : decode cX8_out 10 = .ok (.aload_n 0, 1) := by decide +kernel
theorem dX8_out_11 : decode cX8_out 11 = .ok (.getfield 34, 3) := by decide +kernel
theorem dX8_out_14 : decode cX8_out 14 = .ok (.bipush 8, 2) := by decide +kernel
theorem dX8_out_16 : decode cX8_out 16 = .ok (.iload_n 1, 1) := by decide +kernel
theorem dX8_out_17 : decode cX8_out 17 = .ok (.iadd, 1) := by decide +kernel
theorem dX8_out_18 : decode cX8_out 18 = .ok (.iaload, 1) := by decide +kernel
theorem dX8_out_19 : decode cX8_out 19 = .ok (.iconst 1, 1) := by decide +kernel
theorem dX8_out_20 : decode cX8_out 20 = .ok (.if_icmp .eq 6, 3) := by decide +kernel
theorem dX8_out_23 : decode cX8_out 23 = .ok (.bipush (-3), 2) := by decide +kernel
theorem dX8_out_25 : decode cX8_out 25 = .ok (.ireturn, 1) := by decide +kernel
theorem dX8_out_26 : decode cX8_out 26 = .ok (.aload_n 0, 1) := by decide +kernel
theorem dX8_out_27 : decode cX8_out 27 = .ok (.invokevirtual 148, 3) := by decide +kernel
theorem dX8_out_30 : decode cX8_out 30 = .ok (.aload_n 0, 1) := by decide +kernel
theorem dX8_out_31 : decode cX8_out 31 = .ok (.getfield 34, 3) := by decide +kernel
theorem dX8_out_34 : decode cX8_out 34 = .ok (.bipush 8, 2) := by decide +kernel
theorem dX8_out_36 : decode cX8_out 36 = .ok (.iload_n 1, 1) := by decide +kernel
theorem dX8_out_37 : decode cX8_out 37 = .ok (.iadd, 1) := by decide +kernel
theorem dX8_out_38 : decode cX8_out 38 = .ok (.iconst 2, 1) := by decide +kernel
theorem dX8_out_39 : decode cX8_out 39 = .ok (.iastore, 1) := by decide +kernel
theorem dX8_out_40 : decode cX8_out 40 = .ok (.aload_n 0, 1) := by decide +kernel
theorem dX8_out_41 : decode cX8_out 41 = .ok (.getfield 34, 3) := by decide +kernel
theorem dX8_out_44 : decode cX8_out 44 = .ok (.iconst 4, 1) := by decide +kernel
theorem dX8_out_45 : decode cX8_out 45 = .ok (.iload_n 1, 1) := by decide +kernel
theorem dX8_out_46 : decode cX8_out 46 = .ok (.iadd, 1) := by decide +kernel
theorem dX8_out_47 : decode cX8_out 47 = .ok (.iaload, 1) := by decide +kernel
theorem dX8_out_48 : decode cX8_out 48 = .ok (.ireturn, 1) := by decide +kernel
theorem dX8_trim_0 : decode cX8_trim 0 = .ok (.aload_n 0, 1) := by decide +kernel
theorem dX8_trim_1 : decode cX8_trim 1 = .ok (.iload_n 1, 1) := by decide +kernel
theorem dX8_trim_2 : decode cX8_trim 2 = .ok (.invokevirtual 131, 3) := by decide +kernel
theorem dX8_trim_5 : decode cX8_trim 5 = .ok (.ifCond .ne 5, 3) := by decide +kernel
theorem dX8_trim_8 : decode cX8_trim 8 = .ok (.iconst (-1), 1) := by decide +kernel
theorem dX8_trim_9 : decode cX8_trim 9 = .ok (.ireturn, 1) := by decide +kernel
theorem dX8_trim_10 : decode cX8_trim 10 = .ok (.iload_n 2, 1) := by decide +kernel
theorem dX8_trim_11 : decode cX8_trim 11 = .ok (.i2l, 1) := by decide +kernel
theorem dX8_trim_12 : decode cX8_trim 12 = .ok (.lconst 1, 1) := by decide +kernel
theorem dX8_trim_13 : decode cX8_trim 13 = .ok (.ldc2_w 154, 3) := by decide +kernel
theorem dX8_trim_16 : decode cX8_trim 16 = .ok (.invokestatic 80, 3) := by decide +kernel
theorem dX8_trim_19 : decode cX8_trim 19 = .ok (.ifCond .ne 6, 3) := by decide +kernel
theorem dX8_trim_22 : decode cX8_trim 22 = .ok (.bipush (-2), 2) := by decide +kernel
theorem dX8_trim_24 : decode cX8_trim 24 = .ok (.ireturn, 1) := by decide +kernel
theorem dX8_trim_25 : decode cX8_trim 25 = .ok (.aload_n 0, 1) := by decide +kernel
theorem dX8_trim_26 : decode cX8_trim 26 = .ok (.getfield 34, 3) := by decide +kernel
theorem dX8_trim_29 : decode cX8_trim 29 = .ok (.bipush 8, 2) := by decide +kernel
theorem dX8_trim_31 : decode cX8_trim 31 = .ok (.iload_n 1, 1) := by decide +kernel
theorem dX8_trim_32 : decode cX8_trim 32 = .ok (.iadd, 1) := by decide +kernel
theorem dX8_trim_33 : decode cX8_trim 33 = .ok (.iaload, 1) := by decide +kernel
theorem dX8_trim_34 : decode cX8_trim 34 = .ok (.ifCond .ne 15, 3) := by decide +kernel
theorem dX8_trim_37 : decode cX8_trim 37 = .ok (.aload_n 0, 1) := by decide +kernel
theorem dX8_trim_38 : decode cX8_trim 38 = .ok (.getfield 34, 3) := by decide +kernel
theorem dX8_trim_41 : decode cX8_trim 41 = .ok (.iconst 4, 1) := by decide +kernel
theorem dX8_trim_42 : decode cX8_trim 42 = .ok (.iload_n 1, 1) := by decide +kernel
theorem dX8_trim_43 : decode cX8_trim 43 = .ok (.iadd, 1) := by decide +kernel
theorem dX8_trim_44 : decode cX8_trim 44 = .ok (.iaload, 1) := by decide +kernel
theorem dX8_trim_45 : decode cX8_trim 45 = .ok (.iload_n 2, 1) := by decide +kernel
theorem dX8_trim_46 : decode cX8_trim 46 = .ok (.if_icmp .gt 6, 3) := by decide +kernel
theorem dX8_trim_49 : decode cX8_trim 49 = .ok (.bipush (-3), 2) := by decide +kernel
theorem dX8_trim_51 : decode cX8_trim 51 = .ok (.ireturn, 1) := by decide +kernel
theorem dX8_trim_52 : decode cX8_trim 52 = .ok (.aload_n 0, 1) := by decide +kernel
theorem dX8_trim_53 : decode cX8_trim 53 = .ok (.invokevirtual 148, 3) := by decide +kernel
theorem dX8_trim_56 : decode cX8_trim 56 = .ok (.aload_n 0, 1) := by decide +kernel
theorem dX8_trim_57 : decode cX8_trim 57 = .ok (.getfield 34, 3) := by decide +kernel
theorem dX8_trim_60 : decode cX8_trim 60 = .ok (.iload_n 1, 1) := by decide +kernel
theorem dX8_trim_61 : decode cX8_trim 61 = .ok (.dup2, 1) := by decide +kernel
theorem dX8_trim_62 : decode cX8_trim 62 = .ok (.iaload, 1) := by decide +kernel
theorem dX8_trim_63 : decode cX8_trim 63 = .ok (.iload_n 2, 1) := by decide +kernel
theorem dX8_trim_64 : decode cX8_trim 64 = .ok (.iadd, 1) := by decide +kernel
theorem dX8_trim_65 : decode cX8_trim 65 = .ok (.iastore, 1) := by decide +kernel
theorem dX8_trim_66 : decode cX8_trim 66 = .ok (.aload_n 0, 1) := by decide +kernel
theorem dX8_trim_67 : decode cX8_trim 67 = .ok (.getfield 34, 3) := by decide +kernel
theorem dX8_trim_70 : decode cX8_trim 70 = .ok (.iconst 4, 1) := by decide +kernel
theorem dX8_trim_71 : decode cX8_trim 71 = .ok (.iload_n 1, 1) := by decide +kernel
theorem dX8_trim_72 : decode cX8_trim 72 = .ok (.iadd, 1) := by decide +kernel
theorem dX8_trim_73 : decode cX8_trim 73 = .ok (.dup2, 1) := by decide +kernel
theorem dX8_trim_74 : decode cX8_trim 74 = .ok (.iaload, 1) := by decide +kernel
theorem dX8_trim_75 : decode cX8_trim 75 = .ok (.iload_n 2, 1) := by decide +kernel
theorem dX8_trim_76 : decode cX8_trim 76 = .ok (.isub, 1) := by decide +kernel
theorem dX8_trim_77 : decode cX8_trim 77 = .ok (.iastore, 1) := by decide +kernel
theorem dX8_trim_78 : decode cX8_trim 78 = .ok (.aload_n 0, 1) := by decide +kernel
theorem dX8_trim_79 : decode cX8_trim 79 = .ok (.getfield 34, 3) := by decide +kernel
theorem dX8_trim_82 : decode cX8_trim 82 = .ok (.iconst 4, 1) := by decide +kernel
theorem dX8_trim_83 : decode cX8_trim 83 = .ok (.iload_n 1, 1) := by decide +kernel
theorem dX8_trim_84 : decode cX8_trim 84 = .ok (.iadd, 1) := by decide +kernel
theorem dX8_trim_85 : decode cX8_trim 85 = .ok (.iaload, 1) := by decide +kernel
theorem dX8_trim_86 : decode cX8_trim 86 = .ok (.ireturn, 1) := by decide +kernel
theorem dX8_step_0 : decode cX8_step 0 = .ok (.aload_n 0, 1) := by decide +kernel
theorem dX8_step_1 : decode cX8_step 1 = .ok (.getfield 34, 3) := by decide +kernel
theorem dX8_step_4 : decode cX8_step 4 = .ok (.bipush 17, 2) := by decide +kernel
theorem dX8_step_6 : decode cX8_step 6 = .ok (.iaload, 1) := by decide +kernel
theorem dX8_step_7 : decode cX8_step 7 = .ok (.bipush 20, 2) := by decide +kernel
theorem dX8_step_9 : decode cX8_step 9 = .ok (.if_icmp .ne 6, 3) := by decide +kernel
theorem dX8_step_12 : decode cX8_step 12 = .ok (.bipush (-3), 2) := by decide +kernel
theorem dX8_step_14 : decode cX8_step 14 = .ok (.ireturn, 1) := by decide +kernel
theorem dX8_step_15 : decode cX8_step 15 = .ok (.aload_n 0, 1) := by decide +kernel
theorem dX8_step_16 : decode cX8_step 16 = .ok (.invokevirtual 148, 3) := by decide +kernel
theorem dX8_step_19 : decode cX8_step 19 = .ok (.aload_n 0, 1) := by decide +kernel
theorem dX8_step_20 : decode cX8_step 20 = .ok (.iconst 0, 1) := by decide +kernel
theorem dX8_step_21 : decode cX8_step 21 = .ok (.invokevirtual 156, 3) := by decide +kernel
theorem dX8_step_24 : decode cX8_step 24 = .ok (.ireturn, 1) := by decide +kernel
theorem dX8_undo_0 : decode cX8_undo 0 = .ok (.aload_n 0, 1) := by decide +kernel
theorem dX8_undo_1 : decode cX8_undo 1 = .ok (.getfield 128, 3) := by decide +kernel
theorem dX8_undo_4 : decode cX8_undo 4 = .ok (.ifCond .ne 6, 3) := by decide +kernel
theorem dX8_undo_7 : decode cX8_undo 7 = .ok (.bipush (-3), 2) := by decide +kernel
theorem dX8_undo_9 : decode cX8_undo 9 = .ok (.ireturn, 1) := by decide +kernel
theorem dX8_undo_10 : decode cX8_undo 10 = .ok (.aload_n 0, 1) := by decide +kernel
theorem dX8_undo_11 : decode cX8_undo 11 = .ok (.dup, 1) := by decide +kernel
theorem dX8_undo_12 : decode cX8_undo 12 = .ok (.getfield 128, 3) := by decide +kernel
theorem dX8_undo_15 : decode cX8_undo 15 = .ok (.iconst 1, 1) := by decide +kernel
theorem dX8_undo_16 : decode cX8_undo 16 = .ok (.isub, 1) := by decide +kernel
theorem dX8_undo_17 : decode cX8_undo 17 = .ok (.putfield 128, 3) := by decide +kernel
theorem dX8_undo_20 : decode cX8_undo 20 = .ok (.aload_n 0, 1) := by decide +kernel
theorem dX8_undo_21 : decode cX8_undo 21 = .ok (.aload_n 0, 1) := by decide +kernel
theorem dX8_undo_22 : decode cX8_undo 22 = .ok (.getfield 145, 3) := by decide +kernel
theorem dX8_undo_25 : decode cX8_undo 25 = .ok (.bipush 15, 2) := by decide +kernel
theorem dX8_undo_27 : decode cX8_undo 27 = .ok (.iadd, 1) := by decide +kernel
theorem dX8_undo_28 : decode cX8_undo 28 = .ok (.bipush 16, 2) := by decide +kernel
theorem dX8_undo_30 : decode cX8_undo 30 = .ok (.irem, 1) := by decide +kernel
theorem dX8_undo_31 : decode cX8_undo 31 = .ok (.putfield 145, 3) := by decide +kernel
theorem dX8_undo_34 : decode cX8_undo 34 = .ok (.iconst 0, 1) := by decide +kernel
theorem dX8_undo_35 : decode cX8_undo 35 = .ok (.istore_n 1, 1) := by decide +kernel
theorem dX8_undo_36 : decode cX8_undo 36 = .ok (.iload_n 1, 1) := by decide +kernel
theorem dX8_undo_37 : decode cX8_undo 37 = .ok (.bipush 18, 2) := by decide +kernel
theorem dX8_undo_39 : decode cX8_undo 39 = .ok (.if_icmp .ge 29, 3) := by decide +kernel
theorem dX8_undo_42 : decode cX8_undo 42 = .ok (.aload_n 0, 1) := by decide +kernel
theorem dX8_undo_43 : decode cX8_undo 43 = .ok (.getfield 34, 3) := by decide +kernel
theorem dX8_undo_46 : decode cX8_undo 46 = .ok (.iload_n 1, 1) := by decide +kernel
theorem dX8_undo_47 : decode cX8_undo 47 = .ok (.aload_n 0, 1) := by decide +kernel
theorem dX8_undo_48 : decode cX8_undo 48 = .ok (.getfield 49, 3) := by decide +kernel
theorem dX8_undo_51 : decode cX8_undo 51 = .ok (.bipush 18, 2) := by decide +kernel
theorem dX8_undo_53 : decode cX8_undo 53 = .ok (.aload_n 0, 1) := by decide +kernel
theorem dX8_undo_54 : decode cX8_undo 54 = .ok (.getfield 145, 3) := by decide +kernel
theorem dX8_undo_57 : decode cX8_undo 57 = .ok (.imul, 1) := by decide +kernel
theorem dX8_undo_58 : decode cX8_undo 58 = .ok (.iload_n 1, 1) := by decide +kernel
theorem dX8_undo_59 : decode cX8_undo 59 = .ok (.iadd, 1) := by decide +kernel
theorem dX8_undo_60 : decode cX8_undo 60 = .ok (.iaload, 1) := by decide +kernel
theorem dX8_undo_61 : decode cX8_undo 61 = .ok (.iastore, 1) := by decide +kernel
theorem dX8_undo_62 : decode cX8_undo 62 = .ok (.iinc 1 1, 3) := by decide +kernel
theorem dX8_undo_65 : decode cX8_undo 65 = .ok (.goto (-29), 3) := by decide +kernel
theorem dX8_undo_68 : decode cX8_undo 68 = .ok (.aload_n 0, 1) := by decide +kernel
theorem dX8_undo_69 : decode cX8_undo 69 = .ok (.getfield 128, 3) := by decide +kernel
theorem dX8_undo_72 : decode cX8_undo 72 = .ok (.ireturn, 1) := by decide +kernel
theorem dX8_power_0 : decode cX8_power 0 = .ok (.iconst 1, 1) := by decide +kernel
theorem dX8_power_1 : decode cX8_power 1 = .ok (.istore_n 2, 1) := by decide +kernel
theorem dX8_power_2 : decode cX8_power 2 = .ok (.iconst 0, 1) := by decide +kernel
theorem dX8_power_3 : decode cX8_power 3 = .ok (.istore_n 3, 1) := by decide +kernel
theorem dX8_power_4 : decode cX8_power 4 = .ok (.iload_n 3, 1) := by decide +kernel
theorem dX8_power_5 : decode cX8_power 5 = .ok (.iload_n 1, 1) := by decide +kernel
theorem dX8_power_6 : decode cX8_power 6 = .ok (.if_icmp .ge 13, 3) := by decide +kernel
theorem dX8_power_9 : decode cX8_power 9 = .ok (.iload_n 2, 1) := by decide +kernel
theorem dX8_power_10 : decode cX8_power 10 = .ok (.iload_n 0, 1) := by decide +kernel
theorem dX8_power_11 : decode cX8_power 11 = .ok (.imul, 1) := by decide +kernel
theorem dX8_power_12 : decode cX8_power 12 = .ok (.istore_n 2, 1) := by decide +kernel
theorem dX8_power_13 : decode cX8_power 13 = .ok (.iinc 3 1, 3) := by decide +kernel
theorem dX8_power_16 : decode cX8_power 16 = .ok (.goto (-12), 3) := by decide +kernel
theorem dX8_power_19 : decode cX8_power 19 = .ok (.iload_n 2, 1) := by decide +kernel
theorem dX8_power_20 : decode cX8_power 20 = .ok (.ireturn, 1) := by decide +kernel
theorem dX8_figureOf_0 : decode cX8_figureOf 0 = .ok (.iload_n 0, 1) := by decide +kernel
theorem dX8_figureOf_1 : decode cX8_figureOf 1 = .ok (.bipush 7, 2) := by decide +kernel
theorem dX8_figureOf_3 : decode cX8_figureOf 3 = .ok (.iconst 3, 1) := by decide +kernel
theorem dX8_figureOf_4 : decode cX8_figureOf 4 = .ok (.iload_n 1, 1) := by decide +kernel
theorem dX8_figureOf_5 : decode cX8_figureOf 5 = .ok (.isub, 1) := by decide +kernel
theorem dX8_figureOf_6 : decode cX8_figureOf 6 = .ok (.invokestatic 159, 3) := by decide +kernel
theorem dX8_figureOf_9 : decode cX8_figureOf 9 = .ok (.idiv, 1) := by decide +kernel
theorem dX8_figureOf_10 : decode cX8_figureOf 10 = .ok (.bipush 7, 2) := by decide +kernel
theorem dX8_figureOf_12 : decode cX8_figureOf 12 = .ok (.irem, 1) := by decide +kernel
theorem dX8_figureOf_13 : decode cX8_figureOf 13 = .ok (.ireturn, 1) := by decide +kernel
theorem dX8_isPlan_0 : decode cX8_isPlan 0 = .ok (.iconst 1, 1) := by decide +kernel
theorem dX8_isPlan_1 : decode cX8_isPlan 1 = .ok (.istore_n 2, 1) := by decide +kernel
theorem dX8_isPlan_2 : decode cX8_isPlan 2 = .ok (.iconst 0, 1) := by decide +kernel
theorem dX8_isPlan_3 : decode cX8_isPlan 3 = .ok (.istore_n 3, 1) := by decide +kernel
theorem dX8_isPlan_4 : decode cX8_isPlan 4 = .ok (.iload_n 3, 1) := by decide +kernel
theorem dX8_isPlan_5 : decode cX8_isPlan 5 = .ok (.iconst 4, 1) := by decide +kernel
theorem dX8_isPlan_6 : decode cX8_isPlan 6 = .ok (.if_icmp .ge 47, 3) := by decide +kernel
theorem dX8_isPlan_9 : decode cX8_isPlan 9 = .ok (.iload_n 2, 1) := by decide +kernel
theorem dX8_isPlan_10 : decode cX8_isPlan 10 = .ok (.ifCond .eq 35, 3) := by decide +kernel
theorem dX8_isPlan_13 : decode cX8_isPlan 13 = .ok (.iload_n 1, 1) := by decide +kernel
theorem dX8_isPlan_14 : decode cX8_isPlan 14 = .ok (.iload_n 3, 1) := by decide +kernel
theorem dX8_isPlan_15 : decode cX8_isPlan 15 = .ok (.invokestatic 163, 3) := by decide +kernel
theorem dX8_isPlan_18 : decode cX8_isPlan 18 = .ok (.ifCond .eq 23, 3) := by decide +kernel
theorem dX8_isPlan_21 : decode cX8_isPlan 21 = .ok (.iload_n 3, 1) := by decide +kernel
theorem dX8_isPlan_22 : decode cX8_isPlan 22 = .ok (.aload_n 0, 1) := by decide +kernel
theorem dX8_isPlan_23 : decode cX8_isPlan 23 = .ok (.getfield 122, 3) := by decide +kernel
theorem dX8_isPlan_26 : decode cX8_isPlan 26 = .ok (.if_icmp .ge 19, 3) := by decide +kernel
theorem dX8_isPlan_29 : decode cX8_isPlan 29 = .ok (.aload_n 0, 1) := by decide +kernel
theorem dX8_isPlan_30 : decode cX8_isPlan 30 = .ok (.getfield 34, 3) := by decide +kernel
theorem dX8_isPlan_33 : decode cX8_isPlan 33 = .ok (.bipush 8, 2) := by decide +kernel
theorem dX8_isPlan_35 : decode cX8_isPlan 35 = .ok (.iload_n 3, 1) := by decide +kernel
theorem dX8_isPlan_36 : decode cX8_isPlan 36 = .ok (.iadd, 1) := by decide +kernel
theorem dX8_isPlan_37 : decode cX8_isPlan 37 = .ok (.iaload, 1) := by decide +kernel
theorem dX8_isPlan_38 : decode cX8_isPlan 38 = .ok (.ifCond .ne 7, 3) := by decide +kernel
theorem dX8_isPlan_41 : decode cX8_isPlan 41 = .ok (.iconst 1, 1) := by decide +kernel
theorem dX8_isPlan_42 : decode cX8_isPlan 42 = .ok (.goto 4, 3) := by decide +kernel
theorem dX8_isPlan_45 : decode cX8_isPlan 45 = .ok (.iconst 0, 1) := by decide +kernel
theorem dX8_isPlan_46 : decode cX8_isPlan 46 = .ok (.istore_n 2, 1) := by decide +kernel
theorem dX8_isPlan_47 : decode cX8_isPlan 47 = .ok (.iinc 3 1, 3) := by decide +kernel
theorem dX8_isPlan_50 : decode cX8_isPlan 50 = .ok (.goto (-46), 3) := by decide +kernel
theorem dX8_isPlan_53 : decode cX8_isPlan 53 = .ok (.iload_n 2, 1) := by decide +kernel
theorem dX8_isPlan_54 : decode cX8_isPlan 54 = .ok (.ireturn, 1) := by decide +kernel
theorem dX8_costOf_0 : decode cX8_costOf 0 = .ok (.iconst 0, 1) := by decide +kernel
theorem dX8_costOf_1 : decode cX8_costOf 1 = .ok (.istore_n 2, 1) := by decide +kernel
theorem dX8_costOf_2 : decode cX8_costOf 2 = .ok (.iconst 0, 1) := by decide +kernel
theorem dX8_costOf_3 : decode cX8_costOf 3 = .ok (.istore_n 3, 1) := by decide +kernel
theorem dX8_costOf_4 : decode cX8_costOf 4 = .ok (.iload_n 3, 1) := by decide +kernel
theorem dX8_costOf_5 : decode cX8_costOf 5 = .ok (.aload_n 0, 1) := by decide +kernel
theorem dX8_costOf_6 : decode cX8_costOf 6 = .ok (.getfield 122, 3) := by decide +kernel
theorem dX8_costOf_9 : decode cX8_costOf 9 = .ok (.if_icmp .ge 39, 3) := by decide +kernel
theorem dX8_costOf_12 : decode cX8_costOf 12 = .ok (.iload_n 2, 1) := by decide +kernel
theorem dX8_costOf_13 : decode cX8_costOf 13 = .ok (.iload_n 1, 1) := by decide +kernel
theorem dX8_costOf_14 : decode cX8_costOf 14 = .ok (.iload_n 3, 1) := by decide +kernel
theorem dX8_costOf_15 : decode cX8_costOf 15 = .ok (.invokestatic 163, 3) := by decide +kernel
theorem dX8_costOf_18 : decode cX8_costOf 18 = .ok (.ifCond .le 21, 3) := by decide +kernel
theorem dX8_costOf_21 : decode cX8_costOf 21 = .ok (.aload_n 0, 1) := by decide +kernel
theorem dX8_costOf_22 : decode cX8_costOf 22 = .ok (.getfield 34, 3) := by decide +kernel
theorem dX8_costOf_25 : decode cX8_costOf 25 = .ok (.iconst 4, 1) := by decide +kernel
theorem dX8_costOf_26 : decode cX8_costOf 26 = .ok (.iload_n 3, 1) := by decide +kernel
theorem dX8_costOf_27 : decode cX8_costOf 27 = .ok (.iadd, 1) := by decide +kernel
theorem dX8_costOf_28 : decode cX8_costOf 28 = .ok (.iaload, 1) := by decide +kernel
theorem dX8_costOf_29 : decode cX8_costOf 29 = .ok (.aload_n 0, 1) := by decide +kernel
theorem dX8_costOf_30 : decode cX8_costOf 30 = .ok (.getfield 19, 3) := by decide +kernel
theorem dX8_costOf_33 : decode cX8_costOf 33 = .ok (.iload_n 3, 1) := by decide +kernel
theorem dX8_costOf_34 : decode cX8_costOf 34 = .ok (.iaload, 1) := by decide +kernel
theorem dX8_costOf_35 : decode cX8_costOf 35 = .ok (.imul, 1) := by decide +kernel
theorem dX8_costOf_36 : decode cX8_costOf 36 = .ok (.goto 4, 3) := by decide +kernel
theorem dX8_costOf_39 : decode cX8_costOf 39 = .ok (.iconst 0, 1) := by decide +kernel
theorem dX8_costOf_40 : decode cX8_costOf 40 = .ok (.iadd, 1) := by decide +kernel
theorem dX8_costOf_41 : decode cX8_costOf 41 = .ok (.istore_n 2, 1) := by decide +kernel
theorem dX8_costOf_42 : decode cX8_costOf 42 = .ok (.iinc 3 1, 3) := by decide +kernel
theorem dX8_costOf_45 : decode cX8_costOf 45 = .ok (.goto (-41), 3) := by decide +kernel
theorem dX8_costOf_48 : decode cX8_costOf 48 = .ok (.iload_n 2, 1) := by decide +kernel
theorem dX8_costOf_49 : decode cX8_costOf 49 = .ok (.ireturn, 1) := by decide +kernel
theorem dX8_contentBy_0 : decode cX8_contentBy 0 = .ok (.aload_n 0, 1) := by decide +kernel
theorem dX8_contentBy_1 : decode cX8_contentBy 1 = .ok (.iconst 0, 1) := by decide +kernel
theorem dX8_contentBy_2 : decode cX8_contentBy 2 = .ok (.iconst 1, 1) := by decide +kernel
theorem dX8_contentBy_3 : decode cX8_contentBy 3 = .ok (.invokevirtual 166, 3) := by decide +kernel
theorem dX8_contentBy_6 : decode cX8_contentBy 6 = .ok (.iconst 1, 1) := by decide +kernel
theorem dX8_contentBy_7 : decode cX8_contentBy 7 = .ok (.istore_n 2, 1) := by decide +kernel
theorem dX8_contentBy_8 : decode cX8_contentBy 8 = .ok (.iconst 1, 1) := by decide +kernel
theorem dX8_contentBy_9 : decode cX8_contentBy 9 = .ok (.istore_n 3, 1) := by decide +kernel
theorem dX8_contentBy_10 : decode cX8_contentBy 10 = .ok (.aload_n 0, 1) := by decide +kernel
theorem dX8_contentBy_11 : decode cX8_contentBy 11 = .ok (.getfield 34, 3) := by decide +kernel
theorem dX8_contentBy_14 : decode cX8_contentBy 14 = .ok (.bipush 35, 2) := by decide +kernel
theorem dX8_contentBy_16 : decode cX8_contentBy 16 = .ok (.iaload, 1) := by decide +kernel
theorem dX8_contentBy_17 : decode cX8_contentBy 17 = .ok (.bipush 20, 2) := by decide +kernel
theorem dX8_contentBy_19 : decode cX8_contentBy 19 = .ok (.if_icmp .ge 115, 3) := by decide +kernel
theorem dX8_contentBy_22 : decode cX8_contentBy 22 = .ok (.iload_n 2, 1) := by decide +kernel
theorem dX8_contentBy_23 : decode cX8_contentBy 23 = .ok (.ifCond .eq 111, 3) := by decide +kernel
theorem dX8_contentBy_26 : decode cX8_contentBy 26 = .ok (.iconst 0, 1) := by decide +kernel
theorem dX8_contentBy_27 : decode cX8_contentBy 27 = .ok (.istore_n 2, 1) := by decide +kernel
theorem dX8_contentBy_28 : decode cX8_contentBy 28 = .ok (.iconst 0, 1) := by decide +kernel
theorem dX8_contentBy_29 : decode cX8_contentBy 29 = .ok (.istore 4, 2) := by decide +kernel
theorem dX8_contentBy_31 : decode cX8_contentBy 31 = .ok (.iload 4, 2) := by decide +kernel
theorem dX8_contentBy_33 : decode cX8_contentBy 33 = .ok (.aload_n 0, 1) := by decide +kernel
theorem dX8_contentBy_34 : decode cX8_contentBy 34 = .ok (.getfield 122, 3) := by decide +kernel
theorem dX8_contentBy_37 : decode cX8_contentBy 37 = .ok (.if_icmp .ge 63, 3) := by decide +kernel
theorem dX8_contentBy_40 : decode cX8_contentBy 40 = .ok (.iload_n 1, 1) := by decide +kernel
theorem dX8_contentBy_41 : decode cX8_contentBy 41 = .ok (.iload 4, 2) := by decide +kernel
theorem dX8_contentBy_43 : decode cX8_contentBy 43 = .ok (.invokestatic 163, 3) := by decide +kernel
theorem dX8_contentBy_46 : decode cX8_contentBy 46 = .ok (.istore 5, 2) := by decide +kernel
theorem dX8_contentBy_48 : decode cX8_contentBy 48 = .ok (.aload_n 0, 1) := by decide +kernel
theorem dX8_contentBy_49 : decode cX8_contentBy 49 = .ok (.getfield 34, 3) := by decide +kernel
theorem dX8_contentBy_52 : decode cX8_contentBy 52 = .ok (.bipush 26, 2) := by decide +kernel
theorem dX8_contentBy_54 : decode cX8_contentBy 54 = .ok (.iload 4, 2) := by decide +kernel
theorem dX8_contentBy_56 : decode cX8_contentBy 56 = .ok (.iadd, 1) := by decide +kernel
theorem dX8_contentBy_57 : decode cX8_contentBy 57 = .ok (.iload 5, 2) := by decide +kernel
theorem dX8_contentBy_59 : decode cX8_contentBy 59 = .ok (.iload_n 3, 1) := by decide +kernel
theorem dX8_contentBy_60 : decode cX8_contentBy 60 = .ok (.if_icmp .ne 7, 3) := by decide +kernel
theorem dX8_contentBy_63 : decode cX8_contentBy 63 = .ok (.iconst 1, 1) := by decide +kernel
theorem dX8_contentBy_64 : decode cX8_contentBy 64 = .ok (.goto 13, 3) := by decide +kernel
theorem dX8_contentBy_67 : decode cX8_contentBy 67 = .ok (.aload_n 0, 1) := by decide +kernel
theorem dX8_contentBy_68 : decode cX8_contentBy 68 = .ok (.getfield 34, 3) := by decide +kernel
theorem dX8_contentBy_71 : decode cX8_contentBy 71 = .ok (.bipush 26, 2) := by decide +kernel
theorem dX8_contentBy_73 : decode cX8_contentBy 73 = .ok (.iload 4, 2) := by decide +kernel
theorem dX8_contentBy_75 : decode cX8_contentBy 75 = .ok (.iadd, 1) := by decide +kernel
theorem dX8_contentBy_76 : decode cX8_contentBy 76 = .ok (.iaload, 1) := by decide +kernel
theorem dX8_contentBy_77 : decode cX8_contentBy 77 = .ok (.iastore, 1) := by decide +kernel
theorem dX8_contentBy_78 : decode cX8_contentBy 78 = .ok (.iload_n 2, 1) := by decide +kernel
theorem dX8_contentBy_79 : decode cX8_contentBy 79 = .ok (.ifCond .ne 9, 3) := by decide +kernel
theorem dX8_contentBy_82 : decode cX8_contentBy 82 = .ok (.iload 5, 2) := by decide +kernel
theorem dX8_contentBy_84 : decode cX8_contentBy 84 = .ok (.iload_n 3, 1) := by decide +kernel
theorem dX8_contentBy_85 : decode cX8_contentBy 85 = .ok (.if_icmp .le 7, 3) := by decide +kernel
theorem dX8_contentBy_88 : decode cX8_contentBy 88 = .ok (.iconst 1, 1) := by decide +kernel
theorem dX8_contentBy_89 : decode cX8_contentBy 89 = .ok (.goto 4, 3) := by decide +kernel
theorem dX8_contentBy_92 : decode cX8_contentBy 92 = .ok (.iconst 0, 1) := by decide +kernel
theorem dX8_contentBy_93 : decode cX8_contentBy 93 = .ok (.istore_n 2, 1) := by decide +kernel
theorem dX8_contentBy_94 : decode cX8_contentBy 94 = .ok (.iinc 4 1, 3) := by decide +kernel
theorem dX8_contentBy_97 : decode cX8_contentBy 97 = .ok (.goto (-66), 3) := by decide +kernel
theorem dX8_contentBy_100 : decode cX8_contentBy 100 = .ok (.iload_n 2, 1) := by decide +kernel
theorem dX8_contentBy_101 : decode cX8_contentBy 101 = .ok (.ifCond .ne 11, 3) := by decide +kernel
theorem dX8_contentBy_104 : decode cX8_contentBy 104 = .ok (.aload_n 0, 1) := by decide +kernel
theorem dX8_contentBy_105 : decode cX8_contentBy 105 = .ok (.iconst 1, 1) := by decide +kernel
theorem dX8_contentBy_106 : decode cX8_contentBy 106 = .ok (.invokevirtual 151, 3) := by decide +kernel
theorem dX8_contentBy_109 : decode cX8_contentBy 109 = .ok (.ifCond .le 7, 3) := by decide +kernel
theorem dX8_contentBy_112 : decode cX8_contentBy 112 = .ok (.iconst 1, 1) := by decide +kernel
theorem dX8_contentBy_113 : decode cX8_contentBy 113 = .ok (.goto 4, 3) := by decide +kernel
theorem dX8_contentBy_116 : decode cX8_contentBy 116 = .ok (.iconst 0, 1) := by decide +kernel
theorem dX8_contentBy_117 : decode cX8_contentBy 117 = .ok (.istore_n 2, 1) := by decide +kernel
theorem dX8_contentBy_118 : decode cX8_contentBy 118 = .ok (.iload_n 2, 1) := by decide +kernel
theorem dX8_contentBy_119 : decode cX8_contentBy 119 = .ok (.ifCond .eq 9, 3) := by decide +kernel
theorem dX8_contentBy_122 : decode cX8_contentBy 122 = .ok (.aload_n 0, 1) := by decide +kernel
theorem dX8_contentBy_123 : decode cX8_contentBy 123 = .ok (.iconst 1, 1) := by decide +kernel
theorem dX8_contentBy_124 : decode cX8_contentBy 124 = .ok (.invokevirtual 156, 3) := by decide +kernel
theorem dX8_contentBy_127 : decode cX8_contentBy 127 = .ok (.pop, 1) := by decide +kernel
theorem dX8_contentBy_128 : decode cX8_contentBy 128 = .ok (.iinc 3 1, 3) := by decide +kernel
theorem dX8_contentBy_131 : decode cX8_contentBy 131 = .ok (.goto (-121), 3) := by decide +kernel
theorem dX8_contentBy_134 : decode cX8_contentBy 134 = .ok (.iconst 0, 1) := by decide +kernel
theorem dX8_contentBy_135 : decode cX8_contentBy 135 = .ok (.istore_n 3, 1) := by decide +kernel
theorem dX8_contentBy_136 : decode cX8_contentBy 136 = .ok (.iconst 0, 1) := by decide +kernel
theorem dX8_contentBy_137 : decode cX8_contentBy 137 = .ok (.istore 4, 2) := by decide +kernel
theorem dX8_contentBy_139 : decode cX8_contentBy 139 = .ok (.iload 4, 2) := by decide +kernel
theorem dX8_contentBy_141 : decode cX8_contentBy 141 = .ok (.aload_n 0, 1) := by decide +kernel
theorem dX8_contentBy_142 : decode cX8_contentBy 142 = .ok (.getfield 125, 3) := by decide +kernel
theorem dX8_contentBy_145 : decode cX8_contentBy 145 = .ok (.if_icmp .ge 30, 3) := by decide +kernel
theorem dX8_contentBy_148 : decode cX8_contentBy 148 = .ok (.iload_n 3, 1) := by decide +kernel
theorem dX8_contentBy_149 : decode cX8_contentBy 149 = .ok (.aload_n 0, 1) := by decide +kernel
theorem dX8_contentBy_150 : decode cX8_contentBy 150 = .ok (.iconst 1, 1) := by decide +kernel
theorem dX8_contentBy_151 : decode cX8_contentBy 151 = .ok (.iload 4, 2) := by decide +kernel
theorem dX8_contentBy_153 : decode cX8_contentBy 153 = .ok (.invokevirtual 138, 3) := by decide +kernel
theorem dX8_contentBy_156 : decode cX8_contentBy 156 = .ok (.ifCond .eq 10, 3) := by decide +kernel
theorem dX8_contentBy_159 : decode cX8_contentBy 159 = .ok (.iconst 1, 1) := by decide +kernel
theorem dX8_contentBy_160 : decode cX8_contentBy 160 = .ok (.iload 4, 2) := by decide +kernel
theorem dX8_contentBy_162 : decode cX8_contentBy 162 = .ok (.ishl, 1) := by decide +kernel
theorem dX8_contentBy_163 : decode cX8_contentBy 163 = .ok (.goto 4, 3) := by decide +kernel
theorem dX8_contentBy_166 : decode cX8_contentBy 166 = .ok (.iconst 0, 1) := by decide +kernel
theorem dX8_contentBy_167 : decode cX8_contentBy 167 = .ok (.ior, 1) := by decide +kernel
theorem dX8_contentBy_168 : decode cX8_contentBy 168 = .ok (.istore_n 3, 1) := by decide +kernel
theorem dX8_contentBy_169 : decode cX8_contentBy 169 = .ok (.iinc 4 1, 3) := by decide +kernel
theorem dX8_contentBy_172 : decode cX8_contentBy 172 = .ok (.goto (-33), 3) := by decide +kernel
theorem dX8_contentBy_175 : decode cX8_contentBy 175 = .ok (.iload_n 3, 1) := by decide +kernel
theorem dX8_contentBy_176 : decode cX8_contentBy 176 = .ok (.ireturn, 1) := by decide +kernel
theorem dX8_layPlans_0 : decode cX8_layPlans 0 = .ok (.iconst 0, 1) := by decide +kernel
theorem dX8_layPlans_1 : decode cX8_layPlans 1 = .ok (.istore_n 1, 1) := by decide +kernel
theorem dX8_layPlans_2 : decode cX8_layPlans 2 = .ok (.iload_n 1, 1) := by decide +kernel
theorem dX8_layPlans_3 : decode cX8_layPlans 3 = .ok (.bipush 16, 2) := by decide +kernel
theorem dX8_layPlans_5 : decode cX8_layPlans 5 = .ok (.if_icmp .ge 25, 3) := by decide +kernel
theorem dX8_layPlans_8 : decode cX8_layPlans 8 = .ok (.aload_n 0, 1) := by decide +kernel
theorem dX8_layPlans_9 : decode cX8_layPlans 9 = .ok (.getfield 52, 3) := by decide +kernel
theorem dX8_layPlans_12 : decode cX8_layPlans 12 = .ok (.iload_n 1, 1) := by decide +kernel
theorem dX8_layPlans_13 : decode cX8_layPlans 13 = .ok (.bipush (-9), 2) := by decide +kernel
theorem dX8_layPlans_15 : decode cX8_layPlans 15 = .ok (.iastore, 1) := by decide +kernel
theorem dX8_layPlans_16 : decode cX8_layPlans 16 = .ok (.aload_n 0, 1) := by decide +kernel
theorem dX8_layPlans_17 : decode cX8_layPlans 17 = .ok (.getfield 55, 3) := by decide +kernel
theorem dX8_layPlans_20 : decode cX8_layPlans 20 = .ok (.iload_n 1, 1) := by decide +kernel
theorem dX8_layPlans_21 : decode cX8_layPlans 21 = .ok (.bipush (-9), 2) := by decide +kernel
theorem dX8_layPlans_23 : decode cX8_layPlans 23 = .ok (.iastore, 1) := by decide +kernel
theorem dX8_layPlans_24 : decode cX8_layPlans 24 = .ok (.iinc 1 1, 3) := by decide +kernel
theorem dX8_layPlans_27 : decode cX8_layPlans 27 = .ok (.goto (-25), 3) := by decide +kernel
theorem dX8_layPlans_30 : decode cX8_layPlans 30 = .ok (.iconst 0, 1) := by decide +kernel
theorem dX8_layPlans_31 : decode cX8_layPlans 31 = .ok (.istore_n 1, 1) := by decide +kernel
theorem dX8_layPlans_32 : decode cX8_layPlans 32 = .ok (.iload_n 1, 1) := by decide +kernel
theorem dX8_layPlans_33 : decode cX8_layPlans 33 = .ok (.sipush 2401, 3) := by decide +kernel
theorem dX8_layPlans_36 : decode cX8_layPlans 36 = .ok (.if_icmp .ge 134, 3) := by decide +kernel
theorem dX8_layPlans_39 : decode cX8_layPlans 39 = .ok (.aload_n 0, 1) := by decide +kernel
theorem dX8_layPlans_40 : decode cX8_layPlans 40 = .ok (.iload_n 1, 1) := by decide +kernel
theorem dX8_layPlans_41 : decode cX8_layPlans 41 = .ok (.invokevirtual 170, 3) := by decide +kernel
theorem dX8_layPlans_44 : decode cX8_layPlans 44 = .ok (.ifCond .eq 120, 3) := by decide +kernel
theorem dX8_layPlans_47 : decode cX8_layPlans 47 = .ok (.aload_n 0, 1) := by decide +kernel
theorem dX8_layPlans_48 : decode cX8_layPlans 48 = .ok (.iload_n 1, 1) := by decide +kernel
theorem dX8_layPlans_49 : decode cX8_layPlans 49 = .ok (.invokevirtual 173, 3) := by decide +kernel
theorem dX8_layPlans_52 : decode cX8_layPlans 52 = .ok (.istore_n 2, 1) := by decide +kernel
theorem dX8_layPlans_53 : decode cX8_layPlans 53 = .ok (.aload_n 0, 1) := by decide +kernel
theorem dX8_layPlans_54 : decode cX8_layPlans 54 = .ok (.iload_n 1, 1) := by decide +kernel
theorem dX8_layPlans_55 : decode cX8_layPlans 55 = .ok (.invokevirtual 176, 3) := by decide +kernel
theorem dX8_layPlans_58 : decode cX8_layPlans 58 = .ok (.istore_n 3, 1) := by decide +kernel
theorem dX8_layPlans_59 : decode cX8_layPlans 59 = .ok (.iconst 0, 1) := by decide +kernel
theorem dX8_layPlans_60 : decode cX8_layPlans 60 = .ok (.istore 4, 2) := by decide +kernel
theorem dX8_layPlans_62 : decode cX8_layPlans 62 = .ok (.iload 4, 2) := by decide +kernel
theorem dX8_layPlans_64 : decode cX8_layPlans 64 = .ok (.iconst 1, 1) := by decide +kernel
theorem dX8_layPlans_65 : decode cX8_layPlans 65 = .ok (.aload_n 0, 1) := by decide +kernel
theorem dX8_layPlans_66 : decode cX8_layPlans 66 = .ok (.getfield 125, 3) := by decide +kernel
theorem dX8_layPlans_69 : decode cX8_layPlans 69 = .ok (.ishl, 1) := by decide +kernel
theorem dX8_layPlans_70 : decode cX8_layPlans 70 = .ok (.if_icmp .ge 94, 3) := by decide +kernel
theorem dX8_layPlans_73 : decode cX8_layPlans 73 = .ok (.iload 4, 2) := by decide +kernel
theorem dX8_layPlans_75 : decode cX8_layPlans 75 = .ok (.iload_n 2, 1) := by decide +kernel
theorem dX8_layPlans_76 : decode cX8_layPlans 76 = .ok (.iconst (-1), 1) := by decide +kernel
theorem dX8_layPlans_77 : decode cX8_layPlans 77 = .ok (.ixor, 1) := by decide +kernel
theorem dX8_layPlans_78 : decode cX8_layPlans 78 = .ok (.iand, 1) := by decide +kernel
theorem dX8_layPlans_79 : decode cX8_layPlans 79 = .ok (.ifCond .ne 30, 3) := by decide +kernel
theorem dX8_layPlans_82 : decode cX8_layPlans 82 = .ok (.aload_n 0, 1) := by decide +kernel
theorem dX8_layPlans_83 : decode cX8_layPlans 83 = .ok (.getfield 55, 3) := by decide +kernel
theorem dX8_layPlans_86 : decode cX8_layPlans 86 = .ok (.iload 4, 2) := by decide +kernel
theorem dX8_layPlans_88 : decode cX8_layPlans 88 = .ok (.iaload, 1) := by decide +kernel
theorem dX8_layPlans_89 : decode cX8_layPlans 89 = .ok (.bipush (-9), 2) := by decide +kernel
theorem dX8_layPlans_91 : decode cX8_layPlans 91 = .ok (.if_icmp .eq 14, 3) := by decide +kernel
theorem dX8_layPlans_94 : decode cX8_layPlans 94 = .ok (.iload_n 3, 1) := by decide +kernel
theorem dX8_layPlans_95 : decode cX8_layPlans 95 = .ok (.aload_n 0, 1) := by decide +kernel
theorem dX8_layPlans_96 : decode cX8_layPlans 96 = .ok (.getfield 55, 3) := by decide +kernel
theorem dX8_layPlans_99 : decode cX8_layPlans 99 = .ok (.iload 4, 2) := by decide +kernel
theorem dX8_layPlans_101 : decode cX8_layPlans 101 = .ok (.iaload, 1) := by decide +kernel
theorem dX8_layPlans_102 : decode cX8_layPlans 102 = .ok (.if_icmp .ge 7, 3) := by decide +kernel
theorem dX8_layPlans_105 : decode cX8_layPlans 105 = .ok (.iconst 1, 1) := by decide +kernel
theorem dX8_layPlans_106 : decode cX8_layPlans 106 = .ok (.goto 4, 3) := by decide +kernel
theorem dX8_layPlans_109 : decode cX8_layPlans 109 = .ok (.iconst 0, 1) := by decide +kernel
theorem dX8_layPlans_110 : decode cX8_layPlans 110 = .ok (.istore 5, 2) := by decide +kernel
theorem dX8_layPlans_112 : decode cX8_layPlans 112 = .ok (.aload_n 0, 1) := by decide +kernel
theorem dX8_layPlans_113 : decode cX8_layPlans 113 = .ok (.getfield 52, 3) := by decide +kernel
theorem dX8_layPlans_116 : decode cX8_layPlans 116 = .ok (.iload 4, 2) := by decide +kernel
theorem dX8_layPlans_118 : decode cX8_layPlans 118 = .ok (.iload 5, 2) := by decide +kernel
theorem dX8_layPlans_120 : decode cX8_layPlans 120 = .ok (.ifCond .eq 7, 3) := by decide +kernel
theorem dX8_layPlans_123 : decode cX8_layPlans 123 = .ok (.iload_n 1, 1) := by decide +kernel
theorem dX8_layPlans_124 : decode cX8_layPlans 124 = .ok (.goto 10, 3) := by decide +kernel
theorem dX8_layPlans_127 : decode cX8_layPlans 127 = .ok (.aload_n 0, 1) := by decide +kernel
theorem dX8_layPlans_128 : decode cX8_layPlans 128 = .ok (.getfield 52, 3) := by decide +kernel
theorem dX8_layPlans_131 : decode cX8_layPlans 131 = .ok (.iload 4, 2) := by decide +kernel
theorem dX8_layPlans_133 : decode cX8_layPlans 133 = .ok (.iaload, 1) := by decide +kernel
theorem dX8_layPlans_134 : decode cX8_layPlans 134 = .ok (.iastore, 1) := by decide +kernel
theorem dX8_layPlans_135 : decode cX8_layPlans 135 = .ok (.aload_n 0, 1) := by decide +kernel
theorem dX8_layPlans_136 : decode cX8_layPlans 136 = .ok (.getfield 55, 3) := by decide +kernel
theorem dX8_layPlans_139 : decode cX8_layPlans 139 = .ok (.iload 4, 2) := by decide +kernel
theorem dX8_layPlans_141 : decode cX8_layPlans 141 = .ok (.iload 5, 2) := by decide +kernel
theorem dX8_layPlans_143 : decode cX8_layPlans 143 = .ok (.ifCond .eq 7, 3) := by decide +kernel
theorem dX8_layPlans_146 : decode cX8_layPlans 146 = .ok (.iload_n 3, 1) := by decide +kernel
theorem dX8_layPlans_147 : decode cX8_layPlans 147 = .ok (.goto 10, 3) := by decide +kernel
theorem dX8_layPlans_150 : decode cX8_layPlans 150 = .ok (.aload_n 0, 1) := by decide +kernel
theorem dX8_layPlans_151 : decode cX8_layPlans 151 = .ok (.getfield 55, 3) := by decide +kernel
theorem dX8_layPlans_154 : decode cX8_layPlans 154 = .ok (.iload 4, 2) := by decide +kernel
theorem dX8_layPlans_156 : decode cX8_layPlans 156 = .ok (.iaload, 1) := by decide +kernel
theorem dX8_layPlans_157 : decode cX8_layPlans 157 = .ok (.iastore, 1) := by decide +kernel
theorem dX8_layPlans_158 : decode cX8_layPlans 158 = .ok (.iinc 4 1, 3) := by decide +kernel
theorem dX8_layPlans_161 : decode cX8_layPlans 161 = .ok (.goto (-99), 3) := by decide +kernel
theorem dX8_layPlans_164 : decode cX8_layPlans 164 = .ok (.iinc 1 1, 3) := by decide +kernel
theorem dX8_layPlans_167 : decode cX8_layPlans 167 = .ok (.goto (-135), 3) := by decide +kernel
theorem dX8_layPlans_170 : decode cX8_layPlans 170 = .ok (.return_, 1) := by decide +kernel
theorem dX8_all_0 : decode cX8_all 0 = .ok (.iconst 1, 1) := by decide +kernel
theorem dX8_all_1 : decode cX8_all 1 = .ok (.aload_n 0, 1) := by decide +kernel
theorem dX8_all_2 : decode cX8_all 2 = .ok (.getfield 125, 3) := by decide +kernel
theorem dX8_all_5 : decode cX8_all 5 = .ok (.ishl, 1) := by decide +kernel
theorem dX8_all_6 : decode cX8_all 6 = .ok (.iconst 1, 1) := by decide +kernel
theorem dX8_all_7 : decode cX8_all 7 = .ok (.isub, 1) := by decide +kernel
theorem dX8_all_8 : decode cX8_all 8 = .ok (.ireturn, 1) := by decide +kernel
theorem dX8_plan_0 : decode cX8_plan 0 = .ok (.aload_n 0, 1) := by decide +kernel
theorem dX8_plan_1 : decode cX8_plan 1 = .ok (.invokevirtual 179, 3) := by decide +kernel
theorem dX8_plan_4 : decode cX8_plan 4 = .ok (.aload_n 0, 1) := by decide +kernel
theorem dX8_plan_5 : decode cX8_plan 5 = .ok (.getfield 55, 3) := by decide +kernel
theorem dX8_plan_8 : decode cX8_plan 8 = .ok (.aload_n 0, 1) := by decide +kernel
theorem dX8_plan_9 : decode cX8_plan 9 = .ok (.invokevirtual 182, 3) := by decide +kernel
theorem dX8_plan_12 : decode cX8_plan 12 = .ok (.iaload, 1) := by decide +kernel
theorem dX8_plan_13 : decode cX8_plan 13 = .ok (.ireturn, 1) := by decide +kernel
theorem dX8_planOf_0 : decode cX8_planOf 0 = .ok (.aload_n 0, 1) := by decide +kernel
theorem dX8_planOf_1 : decode cX8_planOf 1 = .ok (.iload_n 1, 1) := by decide +kernel
theorem dX8_planOf_2 : decode cX8_planOf 2 = .ok (.invokevirtual 131, 3) := by decide +kernel
theorem dX8_planOf_5 : decode cX8_planOf 5 = .ok (.ifCond .ne 5, 3) := by decide +kernel
theorem dX8_planOf_8 : decode cX8_planOf 8 = .ok (.iconst (-1), 1) := by decide +kernel
theorem dX8_planOf_9 : decode cX8_planOf 9 = .ok (.ireturn, 1) := by decide +kernel
theorem dX8_planOf_10 : decode cX8_planOf 10 = .ok (.aload_n 0, 1) := by decide +kernel
theorem dX8_planOf_11 : decode cX8_planOf 11 = .ok (.invokevirtual 179, 3) := by decide +kernel
theorem dX8_planOf_14 : decode cX8_planOf 14 = .ok (.aload_n 0, 1) := by decide +kernel
theorem dX8_planOf_15 : decode cX8_planOf 15 = .ok (.getfield 52, 3) := by decide +kernel
theorem dX8_planOf_18 : decode cX8_planOf 18 = .ok (.aload_n 0, 1) := by decide +kernel
theorem dX8_planOf_19 : decode cX8_planOf 19 = .ok (.invokevirtual 182, 3) := by decide +kernel
theorem dX8_planOf_22 : decode cX8_planOf 22 = .ok (.iaload, 1) := by decide +kernel
theorem dX8_planOf_23 : decode cX8_planOf 23 = .ok (.bipush (-9), 2) := by decide +kernel
theorem dX8_planOf_25 : decode cX8_planOf 25 = .ok (.if_icmp .ne 8, 3) := by decide +kernel
theorem dX8_planOf_28 : decode cX8_planOf 28 = .ok (.bipush (-9), 2) := by decide +kernel
theorem dX8_planOf_30 : decode cX8_planOf 30 = .ok (.goto 16, 3) := by decide +kernel
theorem dX8_planOf_33 : decode cX8_planOf 33 = .ok (.aload_n 0, 1) := by decide +kernel
theorem dX8_planOf_34 : decode cX8_planOf 34 = .ok (.getfield 52, 3) := by decide +kernel
theorem dX8_planOf_37 : decode cX8_planOf 37 = .ok (.aload_n 0, 1) := by decide +kernel
theorem dX8_planOf_38 : decode cX8_planOf 38 = .ok (.invokevirtual 182, 3) := by decide +kernel
theorem dX8_planOf_41 : decode cX8_planOf 41 = .ok (.iaload, 1) := by decide +kernel
theorem dX8_planOf_42 : decode cX8_planOf 42 = .ok (.iload_n 1, 1) := by decide +kernel
theorem dX8_planOf_43 : decode cX8_planOf 43 = .ok (.invokestatic 163, 3) := by decide +kernel
theorem dX8_planOf_46 : decode cX8_planOf 46 = .ok (.ireturn, 1) := by decide +kernel
theorem dX8_bars_0 : decode cX8_bars 0 = .ok (.aload_n 0, 1) := by decide +kernel
theorem dX8_bars_1 : decode cX8_bars 1 = .ok (.invokevirtual 179, 3) := by decide +kernel
theorem dX8_bars_4 : decode cX8_bars 4 = .ok (.iconst 0, 1) := by decide +kernel
theorem dX8_bars_5 : decode cX8_bars 5 = .ok (.istore_n 1, 1) := by decide +kernel
theorem dX8_bars_6 : decode cX8_bars 6 = .ok (.iload_n 1, 1) := by decide +kernel
theorem dX8_bars_7 : decode cX8_bars 7 = .ok (.aload_n 0, 1) := by decide +kernel
theorem dX8_bars_8 : decode cX8_bars 8 = .ok (.getfield 125, 3) := by decide +kernel
theorem dX8_bars_11 : decode cX8_bars 11 = .ok (.if_icmp .ge 24, 3) := by decide +kernel
theorem dX8_bars_14 : decode cX8_bars 14 = .ok (.aload_n 0, 1) := by decide +kernel
theorem dX8_bars_15 : decode cX8_bars 15 = .ok (.getfield 52, 3) := by decide +kernel
theorem dX8_bars_18 : decode cX8_bars 18 = .ok (.iconst 1, 1) := by decide +kernel
theorem dX8_bars_19 : decode cX8_bars 19 = .ok (.iload_n 1, 1) := by decide +kernel
theorem dX8_bars_20 : decode cX8_bars 20 = .ok (.ishl, 1) := by decide +kernel
theorem dX8_bars_21 : decode cX8_bars 21 = .ok (.iaload, 1) := by decide +kernel
theorem dX8_bars_22 : decode cX8_bars 22 = .ok (.bipush (-9), 2) := by decide +kernel
theorem dX8_bars_24 : decode cX8_bars 24 = .ok (.if_icmp .ne 5, 3) := by decide +kernel
theorem dX8_bars_27 : decode cX8_bars 27 = .ok (.iload_n 1, 1) := by decide +kernel
theorem dX8_bars_28 : decode cX8_bars 28 = .ok (.ireturn, 1) := by decide +kernel
theorem dX8_bars_29 : decode cX8_bars 29 = .ok (.iinc 1 1, 3) := by decide +kernel
theorem dX8_bars_32 : decode cX8_bars 32 = .ok (.goto (-26), 3) := by decide +kernel
theorem dX8_bars_35 : decode cX8_bars 35 = .ok (.bipush (-9), 2) := by decide +kernel
theorem dX8_bars_37 : decode cX8_bars 37 = .ok (.ireturn, 1) := by decide +kernel
theorem dX8_factorial_0 : decode cX8_factorial 0 = .ok (.iconst 1, 1) := by decide +kernel
theorem dX8_factorial_1 : decode cX8_factorial 1 = .ok (.istore_n 1, 1) := by decide +kernel
theorem dX8_factorial_2 : decode cX8_factorial 2 = .ok (.iconst 2, 1) := by decide +kernel
theorem dX8_factorial_3 : decode cX8_factorial 3 = .ok (.istore_n 2, 1) := by decide +kernel
theorem dX8_factorial_4 : decode cX8_factorial 4 = .ok (.iload_n 2, 1) := by decide +kernel
theorem dX8_factorial_5 : decode cX8_factorial 5 = .ok (.iload_n 0, 1) := by decide +kernel
theorem dX8_factorial_6 : decode cX8_factorial 6 = .ok (.if_icmp .gt 13, 3) := by decide +kernel
theorem dX8_factorial_9 : decode cX8_factorial 9 = .ok (.iload_n 1, 1) := by decide +kernel
theorem dX8_factorial_10 : decode cX8_factorial 10 = .ok (.iload_n 2, 1) := by decide +kernel
theorem dX8_factorial_11 : decode cX8_factorial 11 = .ok (.imul, 1) := by decide +kernel
theorem dX8_factorial_12 : decode cX8_factorial 12 = .ok (.istore_n 1, 1) := by decide +kernel
theorem dX8_factorial_13 : decode cX8_factorial 13 = .ok (.iinc 2 1, 3) := by decide +kernel
theorem dX8_factorial_16 : decode cX8_factorial 16 = .ok (.goto (-12), 3) := by decide +kernel
theorem dX8_factorial_19 : decode cX8_factorial 19 = .ok (.iload_n 1, 1) := by decide +kernel
theorem dX8_factorial_20 : decode cX8_factorial 20 = .ok (.ireturn, 1) := by decide +kernel
theorem dX8_ones_0 : decode cX8_ones 0 = .ok (.iload_n 0, 1) := by decide +kernel
theorem dX8_ones_1 : decode cX8_ones 1 = .ok (.iconst 1, 1) := by decide +kernel
theorem dX8_ones_2 : decode cX8_ones 2 = .ok (.iand, 1) := by decide +kernel
theorem dX8_ones_3 : decode cX8_ones 3 = .ok (.iload_n 0, 1) := by decide +kernel
theorem dX8_ones_4 : decode cX8_ones 4 = .ok (.iconst 1, 1) := by decide +kernel
theorem dX8_ones_5 : decode cX8_ones 5 = .ok (.ishr, 1) := by decide +kernel
theorem dX8_ones_6 : decode cX8_ones 6 = .ok (.iconst 1, 1) := by decide +kernel
theorem dX8_ones_7 : decode cX8_ones 7 = .ok (.iand, 1) := by decide +kernel
theorem dX8_ones_8 : decode cX8_ones 8 = .ok (.iadd, 1) := by decide +kernel
theorem dX8_ones_9 : decode cX8_ones 9 = .ok (.iload_n 0, 1) := by decide +kernel
theorem dX8_ones_10 : decode cX8_ones 10 = .ok (.iconst 2, 1) := by decide +kernel
theorem dX8_ones_11 : decode cX8_ones 11 = .ok (.ishr, 1) := by decide +kernel
theorem dX8_ones_12 : decode cX8_ones 12 = .ok (.iconst 1, 1) := by decide +kernel
theorem dX8_ones_13 : decode cX8_ones 13 = .ok (.iand, 1) := by decide +kernel
theorem dX8_ones_14 : decode cX8_ones 14 = .ok (.iadd, 1) := by decide +kernel
theorem dX8_ones_15 : decode cX8_ones 15 = .ok (.iload_n 0, 1) := by decide +kernel
theorem dX8_ones_16 : decode cX8_ones 16 = .ok (.iconst 3, 1) := by decide +kernel
theorem dX8_ones_17 : decode cX8_ones 17 = .ok (.ishr, 1) := by decide +kernel
theorem dX8_ones_18 : decode cX8_ones 18 = .ok (.iconst 1, 1) := by decide +kernel
theorem dX8_ones_19 : decode cX8_ones 19 = .ok (.iand, 1) := by decide +kernel
theorem dX8_ones_20 : decode cX8_ones 20 = .ok (.iadd, 1) := by decide +kernel
theorem dX8_ones_21 : decode cX8_ones 21 = .ok (.ireturn, 1) := by decide +kernel
theorem dX8_common_0 : decode cX8_common 0 = .ok (.iload_n 0, 1) := by decide +kernel
theorem dX8_common_1 : decode cX8_common 1 = .ok (.istore_n 2, 1) := by decide +kernel
theorem dX8_common_2 : decode cX8_common 2 = .ok (.iload_n 1, 1) := by decide +kernel
theorem dX8_common_3 : decode cX8_common 3 = .ok (.istore_n 3, 1) := by decide +kernel
theorem dX8_common_4 : decode cX8_common 4 = .ok (.iload_n 3, 1) := by decide +kernel
theorem dX8_common_5 : decode cX8_common 5 = .ok (.ifCond .eq 16, 3) := by decide +kernel
theorem dX8_common_8 : decode cX8_common 8 = .ok (.iload_n 2, 1) := by decide +kernel
theorem dX8_common_9 : decode cX8_common 9 = .ok (.iload_n 3, 1) := by decide +kernel
theorem dX8_common_10 : decode cX8_common 10 = .ok (.irem, 1) := by decide +kernel
theorem dX8_common_11 : decode cX8_common 11 = .ok (.istore 4, 2) := by decide +kernel
theorem dX8_common_13 : decode cX8_common 13 = .ok (.iload_n 3, 1) := by decide +kernel
theorem dX8_common_14 : decode cX8_common 14 = .ok (.istore_n 2, 1) := by decide +kernel
theorem dX8_common_15 : decode cX8_common 15 = .ok (.iload 4, 2) := by decide +kernel
theorem dX8_common_17 : decode cX8_common 17 = .ok (.istore_n 3, 1) := by decide +kernel
theorem dX8_common_18 : decode cX8_common 18 = .ok (.goto (-14), 3) := by decide +kernel
theorem dX8_common_21 : decode cX8_common 21 = .ok (.iload_n 2, 1) := by decide +kernel
theorem dX8_common_22 : decode cX8_common 22 = .ok (.ireturn, 1) := by decide +kernel
theorem dX8_share_0 : decode cX8_share 0 = .ok (.aload_n 0, 1) := by decide +kernel
theorem dX8_share_1 : decode cX8_share 1 = .ok (.iload_n 1, 1) := by decide +kernel
theorem dX8_share_2 : decode cX8_share 2 = .ok (.invokevirtual 135, 3) := by decide +kernel
theorem dX8_share_5 : decode cX8_share 5 = .ok (.ifCond .ne 5, 3) := by decide +kernel
theorem dX8_share_8 : decode cX8_share 8 = .ok (.iconst (-1), 1) := by decide +kernel
theorem dX8_share_9 : decode cX8_share 9 = .ok (.ireturn, 1) := by decide +kernel
theorem dX8_share_10 : decode cX8_share 10 = .ok (.aload_n 0, 1) := by decide +kernel
theorem dX8_share_11 : decode cX8_share 11 = .ok (.invokevirtual 179, 3) := by decide +kernel
theorem dX8_share_14 : decode cX8_share 14 = .ok (.aload_n 0, 1) := by decide +kernel
theorem dX8_share_15 : decode cX8_share 15 = .ok (.getfield 55, 3) := by decide +kernel
theorem dX8_share_18 : decode cX8_share 18 = .ok (.aload_n 0, 1) := by decide +kernel
theorem dX8_share_19 : decode cX8_share 19 = .ok (.invokevirtual 182, 3) := by decide +kernel
theorem dX8_share_22 : decode cX8_share 22 = .ok (.iaload, 1) := by decide +kernel
theorem dX8_share_23 : decode cX8_share 23 = .ok (.bipush (-9), 2) := by decide +kernel
theorem dX8_share_25 : decode cX8_share 25 = .ok (.if_icmp .ne 6, 3) := by decide +kernel
theorem dX8_share_28 : decode cX8_share 28 = .ok (.bipush (-3), 2) := by decide +kernel
theorem dX8_share_30 : decode cX8_share 30 = .ok (.ireturn, 1) := by decide +kernel
theorem dX8_share_31 : decode cX8_share 31 = .ok (.iconst 0, 1) := by decide +kernel
theorem dX8_share_32 : decode cX8_share 32 = .ok (.istore_n 3, 1) := by decide +kernel
theorem dX8_share_33 : decode cX8_share 33 = .ok (.iconst 0, 1) := by decide +kernel
theorem dX8_share_34 : decode cX8_share 34 = .ok (.istore 4, 2) := by decide +kernel
theorem dX8_share_36 : decode cX8_share 36 = .ok (.iload 4, 2) := by decide +kernel
theorem dX8_share_38 : decode cX8_share 38 = .ok (.iconst 1, 1) := by decide +kernel
theorem dX8_share_39 : decode cX8_share 39 = .ok (.aload_n 0, 1) := by decide +kernel
theorem dX8_share_40 : decode cX8_share 40 = .ok (.getfield 125, 3) := by decide +kernel
theorem dX8_share_43 : decode cX8_share 43 = .ok (.ishl, 1) := by decide +kernel
theorem dX8_share_44 : decode cX8_share 44 = .ok (.if_icmp .ge 65, 3) := by decide +kernel
theorem dX8_share_47 : decode cX8_share 47 = .ok (.iload 4, 2) := by decide +kernel
theorem dX8_share_49 : decode cX8_share 49 = .ok (.iload_n 1, 1) := by decide +kernel
theorem dX8_share_50 : decode cX8_share 50 = .ok (.invokestatic 142, 3) := by decide +kernel
theorem dX8_share_53 : decode cX8_share 53 = .ok (.ifCond .ne 50, 3) := by decide +kernel
theorem dX8_share_56 : decode cX8_share 56 = .ok (.iload_n 3, 1) := by decide +kernel
theorem dX8_share_57 : decode cX8_share 57 = .ok (.iload 4, 2) := by decide +kernel
theorem dX8_share_59 : decode cX8_share 59 = .ok (.invokestatic 185, 3) := by decide +kernel
theorem dX8_share_62 : decode cX8_share 62 = .ok (.invokestatic 188, 3) := by decide +kernel
theorem dX8_share_65 : decode cX8_share 65 = .ok (.aload_n 0, 1) := by decide +kernel
theorem dX8_share_66 : decode cX8_share 66 = .ok (.getfield 125, 3) := by decide +kernel
theorem dX8_share_69 : decode cX8_share 69 = .ok (.iconst 1, 1) := by decide +kernel
theorem dX8_share_70 : decode cX8_share 70 = .ok (.isub, 1) := by decide +kernel
theorem dX8_share_71 : decode cX8_share 71 = .ok (.iload 4, 2) := by decide +kernel
theorem dX8_share_73 : decode cX8_share 73 = .ok (.invokestatic 185, 3) := by decide +kernel
theorem dX8_share_76 : decode cX8_share 76 = .ok (.isub, 1) := by decide +kernel
theorem dX8_share_77 : decode cX8_share 77 = .ok (.invokestatic 188, 3) := by decide +kernel
theorem dX8_share_80 : decode cX8_share 80 = .ok (.imul, 1) := by decide +kernel
theorem dX8_share_81 : decode cX8_share 81 = .ok (.aload_n 0, 1) := by decide +kernel
theorem dX8_share_82 : decode cX8_share 82 = .ok (.getfield 55, 3) := by decide +kernel
theorem dX8_share_85 : decode cX8_share 85 = .ok (.iload 4, 2) := by decide +kernel
theorem dX8_share_87 : decode cX8_share 87 = .ok (.iconst 1, 1) := by decide +kernel
theorem dX8_share_88 : decode cX8_share 88 = .ok (.iload_n 1, 1) := by decide +kernel
theorem dX8_share_89 : decode cX8_share 89 = .ok (.ishl, 1) := by decide +kernel
theorem dX8_share_90 : decode cX8_share 90 = .ok (.ior, 1) := by decide +kernel
theorem dX8_share_91 : decode cX8_share 91 = .ok (.iaload, 1) := by decide +kernel
theorem dX8_share_92 : decode cX8_share 92 = .ok (.aload_n 0, 1) := by decide +kernel
theorem dX8_share_93 : decode cX8_share 93 = .ok (.getfield 55, 3) := by decide +kernel
theorem dX8_share_96 : decode cX8_share 96 = .ok (.iload 4, 2) := by decide +kernel
theorem dX8_share_98 : decode cX8_share 98 = .ok (.iaload, 1) := by decide +kernel
theorem dX8_share_99 : decode cX8_share 99 = .ok (.isub, 1) := by decide +kernel
theorem dX8_share_100 : decode cX8_share 100 = .ok (.imul, 1) := by decide +kernel
theorem dX8_share_101 : decode cX8_share 101 = .ok (.iadd, 1) := by decide +kernel
theorem dX8_share_102 : decode cX8_share 102 = .ok (.istore_n 3, 1) := by decide +kernel
theorem dX8_share_103 : decode cX8_share 103 = .ok (.iinc 4 1, 3) := by decide +kernel
theorem dX8_share_106 : decode cX8_share 106 = .ok (.goto (-70), 3) := by decide +kernel
theorem dX8_share_109 : decode cX8_share 109 = .ok (.iload_n 3, 1) := by decide +kernel
theorem dX8_share_110 : decode cX8_share 110 = .ok (.aload_n 0, 1) := by decide +kernel
theorem dX8_share_111 : decode cX8_share 111 = .ok (.getfield 125, 3) := by decide +kernel
theorem dX8_share_114 : decode cX8_share 114 = .ok (.invokestatic 188, 3) := by decide +kernel
theorem dX8_share_117 : decode cX8_share 117 = .ok (.invokestatic 191, 3) := by decide +kernel
theorem dX8_share_120 : decode cX8_share 120 = .ok (.istore 4, 2) := by decide +kernel
theorem dX8_share_122 : decode cX8_share 122 = .ok (.iload_n 2, 1) := by decide +kernel
theorem dX8_share_123 : decode cX8_share 123 = .ok (.ifCond .eq 10, 3) := by decide +kernel
theorem dX8_share_126 : decode cX8_share 126 = .ok (.iload_n 3, 1) := by decide +kernel
theorem dX8_share_127 : decode cX8_share 127 = .ok (.iload 4, 2) := by decide +kernel
theorem dX8_share_129 : decode cX8_share 129 = .ok (.idiv, 1) := by decide +kernel
theorem dX8_share_130 : decode cX8_share 130 = .ok (.goto 13, 3) := by decide +kernel
theorem dX8_share_133 : decode cX8_share 133 = .ok (.aload_n 0, 1) := by decide +kernel
theorem dX8_share_134 : decode cX8_share 134 = .ok (.getfield 125, 3) := by decide +kernel
theorem dX8_share_137 : decode cX8_share 137 = .ok (.invokestatic 188, 3) := by decide +kernel
theorem dX8_share_140 : decode cX8_share 140 = .ok (.iload 4, 2) := by decide +kernel
theorem dX8_share_142 : decode cX8_share 142 = .ok (.idiv, 1) := by decide +kernel
theorem dX8_share_143 : decode cX8_share 143 = .ok (.ireturn, 1) := by decide +kernel
theorem dX8_gives_0 : decode cX8_gives 0 = .ok (.iload_n 1, 1) := by decide +kernel
theorem dX8_gives_1 : decode cX8_gives 1 = .ok (.bipush (-9), 2) := by decide +kernel
theorem dX8_gives_3 : decode cX8_gives 3 = .ok (.if_icmp .eq 32, 3) := by decide +kernel
theorem dX8_gives_6 : decode cX8_gives 6 = .ok (.iload_n 2, 1) := by decide +kernel
theorem dX8_gives_7 : decode cX8_gives 7 = .ok (.aload_n 0, 1) := by decide +kernel
theorem dX8_gives_8 : decode cX8_gives 8 = .ok (.getfield 34, 3) := by decide +kernel
theorem dX8_gives_11 : decode cX8_gives 11 = .ok (.iconst 4, 1) := by decide +kernel
theorem dX8_gives_12 : decode cX8_gives 12 = .ok (.iload_n 1, 1) := by decide +kernel
theorem dX8_gives_13 : decode cX8_gives 13 = .ok (.iadd, 1) := by decide +kernel
theorem dX8_gives_14 : decode cX8_gives 14 = .ok (.iaload, 1) := by decide +kernel
theorem dX8_gives_15 : decode cX8_gives 15 = .ok (.if_icmp .ge 20, 3) := by decide +kernel
theorem dX8_gives_18 : decode cX8_gives 18 = .ok (.aload_n 0, 1) := by decide +kernel
theorem dX8_gives_19 : decode cX8_gives 19 = .ok (.getfield 7, 3) := by decide +kernel
theorem dX8_gives_22 : decode cX8_gives 22 = .ok (.aload_n 0, 1) := by decide +kernel
theorem dX8_gives_23 : decode cX8_gives 23 = .ok (.getfield 34, 3) := by decide +kernel
theorem dX8_gives_26 : decode cX8_gives 26 = .ok (.iload_n 1, 1) := by decide +kernel
theorem dX8_gives_27 : decode cX8_gives 27 = .ok (.iaload, 1) := by decide +kernel
theorem dX8_gives_28 : decode cX8_gives 28 = .ok (.iload_n 2, 1) := by decide +kernel
theorem dX8_gives_29 : decode cX8_gives 29 = .ok (.iadd, 1) := by decide +kernel
theorem dX8_gives_30 : decode cX8_gives 30 = .ok (.iaload, 1) := by decide +kernel
theorem dX8_gives_31 : decode cX8_gives 31 = .ok (.iconst 4, 1) := by decide +kernel
theorem dX8_gives_32 : decode cX8_gives 32 = .ok (.if_icmp .ne 7, 3) := by decide +kernel
theorem dX8_gives_35 : decode cX8_gives 35 = .ok (.iconst 0, 1) := by decide +kernel
theorem dX8_gives_36 : decode cX8_gives 36 = .ok (.goto 18, 3) := by decide +kernel
theorem dX8_gives_39 : decode cX8_gives 39 = .ok (.iconst 1, 1) := by decide +kernel
theorem dX8_gives_40 : decode cX8_gives 40 = .ok (.aload_n 0, 1) := by decide +kernel
theorem dX8_gives_41 : decode cX8_gives 41 = .ok (.getfield 7, 3) := by decide +kernel
theorem dX8_gives_44 : decode cX8_gives 44 = .ok (.aload_n 0, 1) := by decide +kernel
theorem dX8_gives_45 : decode cX8_gives 45 = .ok (.getfield 34, 3) := by decide +kernel
theorem dX8_gives_48 : decode cX8_gives 48 = .ok (.iload_n 1, 1) := by decide +kernel
theorem dX8_gives_49 : decode cX8_gives 49 = .ok (.iaload, 1) := by decide +kernel
theorem dX8_gives_50 : decode cX8_gives 50 = .ok (.iload_n 2, 1) := by decide +kernel
theorem dX8_gives_51 : decode cX8_gives 51 = .ok (.iadd, 1) := by decide +kernel
theorem dX8_gives_52 : decode cX8_gives 52 = .ok (.iaload, 1) := by decide +kernel
theorem dX8_gives_53 : decode cX8_gives 53 = .ok (.ishl, 1) := by decide +kernel
theorem dX8_gives_54 : decode cX8_gives 54 = .ok (.ireturn, 1) := by decide +kernel
theorem dX8_tableOf_0 : decode cX8_tableOf 0 = .ok (.iconst 0, 1) := by decide +kernel
theorem dX8_tableOf_1 : decode cX8_tableOf 1 = .ok (.istore_n 3, 1) := by decide +kernel
theorem dX8_tableOf_2 : decode cX8_tableOf 2 = .ok (.iconst 0, 1) := by decide +kernel
theorem dX8_tableOf_3 : decode cX8_tableOf 3 = .ok (.istore 4, 2) := by decide +kernel
theorem dX8_tableOf_5 : decode cX8_tableOf 5 = .ok (.iload 4, 2) := by decide +kernel
theorem dX8_tableOf_7 : decode cX8_tableOf 7 = .ok (.bipush 6, 2) := by decide +kernel
theorem dX8_tableOf_9 : decode cX8_tableOf 9 = .ok (.if_icmp .ge 30, 3) := by decide +kernel
theorem dX8_tableOf_12 : decode cX8_tableOf 12 = .ok (.iload_n 3, 1) := by decide +kernel
theorem dX8_tableOf_13 : decode cX8_tableOf 13 = .ok (.aload_n 0, 1) := by decide +kernel
theorem dX8_tableOf_14 : decode cX8_tableOf 14 = .ok (.iload_n 1, 1) := by decide +kernel
theorem dX8_tableOf_15 : decode cX8_tableOf 15 = .ok (.iload 4, 2) := by decide +kernel
theorem dX8_tableOf_17 : decode cX8_tableOf 17 = .ok (.invokevirtual 194, 3) := by decide +kernel
theorem dX8_tableOf_20 : decode cX8_tableOf 20 = .ok (.aload_n 0, 1) := by decide +kernel
theorem dX8_tableOf_21 : decode cX8_tableOf 21 = .ok (.iload_n 2, 1) := by decide +kernel
theorem dX8_tableOf_22 : decode cX8_tableOf 22 = .ok (.iload 4, 2) := by decide +kernel
theorem dX8_tableOf_24 : decode cX8_tableOf 24 = .ok (.invokevirtual 194, 3) := by decide +kernel
theorem dX8_tableOf_27 : decode cX8_tableOf 27 = .ok (.ior, 1) := by decide +kernel
theorem dX8_tableOf_28 : decode cX8_tableOf 28 = .ok (.invokestatic 185, 3) := by decide +kernel
theorem dX8_tableOf_31 : decode cX8_tableOf 31 = .ok (.iadd, 1) := by decide +kernel
theorem dX8_tableOf_32 : decode cX8_tableOf 32 = .ok (.istore_n 3, 1) := by decide +kernel
theorem dX8_tableOf_33 : decode cX8_tableOf 33 = .ok (.iinc 4 1, 3) := by decide +kernel
theorem dX8_tableOf_36 : decode cX8_tableOf 36 = .ok (.goto (-31), 3) := by decide +kernel
theorem dX8_tableOf_39 : decode cX8_tableOf 39 = .ok (.iload_n 3, 1) := by decide +kernel
theorem dX8_tableOf_40 : decode cX8_tableOf 40 = .ok (.ireturn, 1) := by decide +kernel
theorem dX8_table_0 : decode cX8_table 0 = .ok (.aload_n 0, 1) := by decide +kernel
theorem dX8_table_1 : decode cX8_table 1 = .ok (.iload_n 1, 1) := by decide +kernel
theorem dX8_table_2 : decode cX8_table 2 = .ok (.invokevirtual 131, 3) := by decide +kernel
theorem dX8_table_5 : decode cX8_table 5 = .ok (.ifCond .eq 11, 3) := by decide +kernel
theorem dX8_table_8 : decode cX8_table 8 = .ok (.aload_n 0, 1) := by decide +kernel
theorem dX8_table_9 : decode cX8_table 9 = .ok (.iload_n 2, 1) := by decide +kernel
theorem dX8_table_10 : decode cX8_table 10 = .ok (.invokevirtual 131, 3) := by decide +kernel
theorem dX8_table_13 : decode cX8_table 13 = .ok (.ifCond .ne 5, 3) := by decide +kernel
theorem dX8_table_16 : decode cX8_table 16 = .ok (.iconst (-1), 1) := by decide +kernel
theorem dX8_table_17 : decode cX8_table 17 = .ok (.ireturn, 1) := by decide +kernel
theorem dX8_table_18 : decode cX8_table 18 = .ok (.iload_n 1, 1) := by decide +kernel
theorem dX8_table_19 : decode cX8_table 19 = .ok (.iload_n 2, 1) := by decide +kernel
theorem dX8_table_20 : decode cX8_table 20 = .ok (.if_icmp .ne 8, 3) := by decide +kernel
theorem dX8_table_23 : decode cX8_table 23 = .ok (.bipush (-2), 2) := by decide +kernel
theorem dX8_table_25 : decode cX8_table 25 = .ok (.goto 9, 3) := by decide +kernel
theorem dX8_table_28 : decode cX8_table 28 = .ok (.aload_n 0, 1) := by decide +kernel
theorem dX8_table_29 : decode cX8_table 29 = .ok (.iload_n 1, 1) := by decide +kernel
theorem dX8_table_30 : decode cX8_table 30 = .ok (.iload_n 2, 1) := by decide +kernel
theorem dX8_table_31 : decode cX8_table 31 = .ok (.invokevirtual 197, 3) := by decide +kernel
theorem dX8_table_34 : decode cX8_table 34 = .ok (.ireturn, 1) := by decide +kernel
theorem dX8_pairs_0 : decode cX8_pairs 0 = .ok (.iconst 0, 1) := by decide +kernel
theorem dX8_pairs_1 : decode cX8_pairs 1 = .ok (.istore_n 1, 1) := by decide +kernel
theorem dX8_pairs_2 : decode cX8_pairs 2 = .ok (.iconst 0, 1) := by decide +kernel
theorem dX8_pairs_3 : decode cX8_pairs 3 = .ok (.istore_n 2, 1) := by decide +kernel
theorem dX8_pairs_4 : decode cX8_pairs 4 = .ok (.iload_n 2, 1) := by decide +kernel
theorem dX8_pairs_5 : decode cX8_pairs 5 = .ok (.aload_n 0, 1) := by decide +kernel
theorem dX8_pairs_6 : decode cX8_pairs 6 = .ok (.getfield 122, 3) := by decide +kernel
theorem dX8_pairs_9 : decode cX8_pairs 9 = .ok (.if_icmp .ge 31, 3) := by decide +kernel
theorem dX8_pairs_12 : decode cX8_pairs 12 = .ok (.iload_n 1, 1) := by decide +kernel
theorem dX8_pairs_13 : decode cX8_pairs 13 = .ok (.aload_n 0, 1) := by decide +kernel
theorem dX8_pairs_14 : decode cX8_pairs 14 = .ok (.getfield 34, 3) := by decide +kernel
theorem dX8_pairs_17 : decode cX8_pairs 17 = .ok (.bipush 8, 2) := by decide +kernel
theorem dX8_pairs_19 : decode cX8_pairs 19 = .ok (.iload_n 2, 1) := by decide +kernel
theorem dX8_pairs_20 : decode cX8_pairs 20 = .ok (.iadd, 1) := by decide +kernel
theorem dX8_pairs_21 : decode cX8_pairs 21 = .ok (.iaload, 1) := by decide +kernel
theorem dX8_pairs_22 : decode cX8_pairs 22 = .ok (.ifCond .ne 9, 3) := by decide +kernel
theorem dX8_pairs_25 : decode cX8_pairs 25 = .ok (.iconst 1, 1) := by decide +kernel
theorem dX8_pairs_26 : decode cX8_pairs 26 = .ok (.iload_n 2, 1) := by decide +kernel
theorem dX8_pairs_27 : decode cX8_pairs 27 = .ok (.ishl, 1) := by decide +kernel
theorem dX8_pairs_28 : decode cX8_pairs 28 = .ok (.goto 4, 3) := by decide +kernel
theorem dX8_pairs_31 : decode cX8_pairs 31 = .ok (.iconst 0, 1) := by decide +kernel
theorem dX8_pairs_32 : decode cX8_pairs 32 = .ok (.ior, 1) := by decide +kernel
theorem dX8_pairs_33 : decode cX8_pairs 33 = .ok (.istore_n 1, 1) := by decide +kernel
theorem dX8_pairs_34 : decode cX8_pairs 34 = .ok (.iinc 2 1, 3) := by decide +kernel
theorem dX8_pairs_37 : decode cX8_pairs 37 = .ok (.goto (-33), 3) := by decide +kernel
theorem dX8_pairs_40 : decode cX8_pairs 40 = .ok (.aload_n 0, 1) := by decide +kernel
theorem dX8_pairs_41 : decode cX8_pairs 41 = .ok (.getfield 58, 3) := by decide +kernel
theorem dX8_pairs_44 : decode cX8_pairs 44 = .ok (.iconst 0, 1) := by decide +kernel
theorem dX8_pairs_45 : decode cX8_pairs 45 = .ok (.iconst 0, 1) := by decide +kernel
theorem dX8_pairs_46 : decode cX8_pairs 46 = .ok (.iastore, 1) := by decide +kernel
theorem dX8_pairs_47 : decode cX8_pairs 47 = .ok (.iconst 1, 1) := by decide +kernel
theorem dX8_pairs_48 : decode cX8_pairs 48 = .ok (.istore_n 2, 1) := by decide +kernel
theorem dX8_pairs_49 : decode cX8_pairs 49 = .ok (.iload_n 2, 1) := by decide +kernel
theorem dX8_pairs_50 : decode cX8_pairs 50 = .ok (.bipush 16, 2) := by decide +kernel
theorem dX8_pairs_52 : decode cX8_pairs 52 = .ok (.if_icmp .ge 209, 3) := by decide +kernel
theorem dX8_pairs_55 : decode cX8_pairs 55 = .ok (.aload_n 0, 1) := by decide +kernel
theorem dX8_pairs_56 : decode cX8_pairs 56 = .ok (.getfield 58, 3) := by decide +kernel
theorem dX8_pairs_59 : decode cX8_pairs 59 = .ok (.iload_n 2, 1) := by decide +kernel
theorem dX8_pairs_60 : decode cX8_pairs 60 = .ok (.bipush (-9), 2) := by decide +kernel
theorem dX8_pairs_62 : decode cX8_pairs 62 = .ok (.iastore, 1) := by decide +kernel
theorem dX8_pairs_63 : decode cX8_pairs 63 = .ok (.iload_n 2, 1) := by decide +kernel
theorem dX8_pairs_64 : decode cX8_pairs 64 = .ok (.invokestatic 185, 3) := by decide +kernel
theorem dX8_pairs_67 : decode cX8_pairs 67 = .ok (.iconst 2, 1) := by decide +kernel
theorem dX8_pairs_68 : decode cX8_pairs 68 = .ok (.irem, 1) := by decide +kernel
theorem dX8_pairs_69 : decode cX8_pairs 69 = .ok (.iconst 1, 1) := by decide +kernel
theorem dX8_pairs_70 : decode cX8_pairs 70 = .ok (.if_icmp .ne 7, 3) := by decide +kernel
theorem dX8_pairs_73 : decode cX8_pairs 73 = .ok (.iconst 1, 1) := by decide +kernel
theorem dX8_pairs_74 : decode cX8_pairs 74 = .ok (.goto 4, 3) := by decide +kernel
theorem dX8_pairs_77 : decode cX8_pairs 77 = .ok (.iconst 0, 1) := by decide +kernel
theorem dX8_pairs_78 : decode cX8_pairs 78 = .ok (.istore_n 3, 1) := by decide +kernel
theorem dX8_pairs_79 : decode cX8_pairs 79 = .ok (.iconst 0, 1) := by decide +kernel
theorem dX8_pairs_80 : decode cX8_pairs 80 = .ok (.istore 4, 2) := by decide +kernel
theorem dX8_pairs_82 : decode cX8_pairs 82 = .ok (.iload 4, 2) := by decide +kernel
theorem dX8_pairs_84 : decode cX8_pairs 84 = .ok (.aload_n 0, 1) := by decide +kernel
theorem dX8_pairs_85 : decode cX8_pairs 85 = .ok (.getfield 122, 3) := by decide +kernel
theorem dX8_pairs_88 : decode cX8_pairs 88 = .ok (.if_icmp .ge 167, 3) := by decide +kernel
theorem dX8_pairs_91 : decode cX8_pairs 91 = .ok (.iload 4, 2) := by decide +kernel
theorem dX8_pairs_93 : decode cX8_pairs 93 = .ok (.istore 5, 2) := by decide +kernel
theorem dX8_pairs_95 : decode cX8_pairs 95 = .ok (.iload 5, 2) := by decide +kernel
theorem dX8_pairs_97 : decode cX8_pairs 97 = .ok (.aload_n 0, 1) := by decide +kernel
theorem dX8_pairs_98 : decode cX8_pairs 98 = .ok (.getfield 122, 3) := by decide +kernel
theorem dX8_pairs_101 : decode cX8_pairs 101 = .ok (.if_icmp .ge 148, 3) := by decide +kernel
theorem dX8_pairs_104 : decode cX8_pairs 104 = .ok (.iload_n 2, 1) := by decide +kernel
theorem dX8_pairs_105 : decode cX8_pairs 105 = .ok (.iload 4, 2) := by decide +kernel
theorem dX8_pairs_107 : decode cX8_pairs 107 = .ok (.invokestatic 142, 3) := by decide +kernel
theorem dX8_pairs_110 : decode cX8_pairs 110 = .ok (.ifCond .eq 27, 3) := by decide +kernel
theorem dX8_pairs_113 : decode cX8_pairs 113 = .ok (.iload_n 2, 1) := by decide +kernel
theorem dX8_pairs_114 : decode cX8_pairs 114 = .ok (.iload 5, 2) := by decide +kernel
theorem dX8_pairs_116 : decode cX8_pairs 116 = .ok (.invokestatic 142, 3) := by decide +kernel
theorem dX8_pairs_119 : decode cX8_pairs 119 = .ok (.ifCond .eq 18, 3) := by decide +kernel
theorem dX8_pairs_122 : decode cX8_pairs 122 = .ok (.iload 4, 2) := by decide +kernel
theorem dX8_pairs_124 : decode cX8_pairs 124 = .ok (.iload 5, 2) := by decide +kernel
theorem dX8_pairs_126 : decode cX8_pairs 126 = .ok (.if_icmp .ne 7, 3) := by decide +kernel
theorem dX8_pairs_129 : decode cX8_pairs 129 = .ok (.iload_n 3, 1) := by decide +kernel
theorem dX8_pairs_130 : decode cX8_pairs 130 = .ok (.ifCond .eq 7, 3) := by decide +kernel
theorem dX8_pairs_133 : decode cX8_pairs 133 = .ok (.iconst 1, 1) := by decide +kernel
theorem dX8_pairs_134 : decode cX8_pairs 134 = .ok (.goto 4, 3) := by decide +kernel
theorem dX8_pairs_137 : decode cX8_pairs 137 = .ok (.iconst 0, 1) := by decide +kernel
theorem dX8_pairs_138 : decode cX8_pairs 138 = .ok (.istore 6, 2) := by decide +kernel
theorem dX8_pairs_140 : decode cX8_pairs 140 = .ok (.iload_n 2, 1) := by decide +kernel
theorem dX8_pairs_141 : decode cX8_pairs 141 = .ok (.iconst 1, 1) := by decide +kernel
theorem dX8_pairs_142 : decode cX8_pairs 142 = .ok (.iload 4, 2) := by decide +kernel
theorem dX8_pairs_144 : decode cX8_pairs 144 = .ok (.ishl, 1) := by decide +kernel
theorem dX8_pairs_145 : decode cX8_pairs 145 = .ok (.iconst (-1), 1) := by decide +kernel
theorem dX8_pairs_146 : decode cX8_pairs 146 = .ok (.ixor, 1) := by decide +kernel
theorem dX8_pairs_147 : decode cX8_pairs 147 = .ok (.iand, 1) := by decide +kernel
theorem dX8_pairs_148 : decode cX8_pairs 148 = .ok (.iconst 1, 1) := by decide +kernel
theorem dX8_pairs_149 : decode cX8_pairs 149 = .ok (.iload 5, 2) := by decide +kernel
theorem dX8_pairs_151 : decode cX8_pairs 151 = .ok (.ishl, 1) := by decide +kernel
theorem dX8_pairs_152 : decode cX8_pairs 152 = .ok (.iconst (-1), 1) := by decide +kernel
theorem dX8_pairs_153 : decode cX8_pairs 153 = .ok (.ixor, 1) := by decide +kernel
theorem dX8_pairs_154 : decode cX8_pairs 154 = .ok (.iand, 1) := by decide +kernel
theorem dX8_pairs_155 : decode cX8_pairs 155 = .ok (.istore 7, 2) := by decide +kernel
theorem dX8_pairs_157 : decode cX8_pairs 157 = .ok (.iload 6, 2) := by decide +kernel
theorem dX8_pairs_159 : decode cX8_pairs 159 = .ok (.ifCond .eq 52, 3) := by decide +kernel
theorem dX8_pairs_162 : decode cX8_pairs 162 = .ok (.aload_n 0, 1) := by decide +kernel
theorem dX8_pairs_163 : decode cX8_pairs 163 = .ok (.getfield 58, 3) := by decide +kernel
theorem dX8_pairs_166 : decode cX8_pairs 166 = .ok (.iload 7, 2) := by decide +kernel
theorem dX8_pairs_168 : decode cX8_pairs 168 = .ok (.iaload, 1) := by decide +kernel
theorem dX8_pairs_169 : decode cX8_pairs 169 = .ok (.bipush (-9), 2) := by decide +kernel
theorem dX8_pairs_171 : decode cX8_pairs 171 = .ok (.if_icmp .eq 40, 3) := by decide +kernel
theorem dX8_pairs_174 : decode cX8_pairs 174 = .ok (.aload_n 0, 1) := by decide +kernel
theorem dX8_pairs_175 : decode cX8_pairs 175 = .ok (.getfield 58, 3) := by decide +kernel
theorem dX8_pairs_178 : decode cX8_pairs 178 = .ok (.iload 7, 2) := by decide +kernel
theorem dX8_pairs_180 : decode cX8_pairs 180 = .ok (.iaload, 1) := by decide +kernel
theorem dX8_pairs_181 : decode cX8_pairs 181 = .ok (.iload 4, 2) := by decide +kernel
theorem dX8_pairs_183 : decode cX8_pairs 183 = .ok (.iload 5, 2) := by decide +kernel
theorem dX8_pairs_185 : decode cX8_pairs 185 = .ok (.if_icmp .ne 14, 3) := by decide +kernel
theorem dX8_pairs_188 : decode cX8_pairs 188 = .ok (.aload_n 0, 1) := by decide +kernel
theorem dX8_pairs_189 : decode cX8_pairs 189 = .ok (.iload 4, 2) := by decide +kernel
theorem dX8_pairs_191 : decode cX8_pairs 191 = .ok (.bipush (-9), 2) := by decide +kernel
theorem dX8_pairs_193 : decode cX8_pairs 193 = .ok (.invokevirtual 197, 3) := by decide +kernel
theorem dX8_pairs_196 : decode cX8_pairs 196 = .ok (.goto 11, 3) := by decide +kernel
theorem dX8_pairs_199 : decode cX8_pairs 199 = .ok (.aload_n 0, 1) := by decide +kernel
theorem dX8_pairs_200 : decode cX8_pairs 200 = .ok (.iload 4, 2) := by decide +kernel
theorem dX8_pairs_202 : decode cX8_pairs 202 = .ok (.iload 5, 2) := by decide +kernel
theorem dX8_pairs_204 : decode cX8_pairs 204 = .ok (.invokevirtual 197, 3) := by decide +kernel
theorem dX8_pairs_207 : decode cX8_pairs 207 = .ok (.iadd, 1) := by decide +kernel
theorem dX8_pairs_208 : decode cX8_pairs 208 = .ok (.goto 5, 3) := by decide +kernel
theorem dX8_pairs_211 : decode cX8_pairs 211 = .ok (.bipush (-9), 2) := by decide +kernel
theorem dX8_pairs_213 : decode cX8_pairs 213 = .ok (.istore 8, 2) := by decide +kernel
theorem dX8_pairs_215 : decode cX8_pairs 215 = .ok (.aload_n 0, 1) := by decide +kernel
theorem dX8_pairs_216 : decode cX8_pairs 216 = .ok (.getfield 58, 3) := by decide +kernel
theorem dX8_pairs_219 : decode cX8_pairs 219 = .ok (.iload_n 2, 1) := by decide +kernel
theorem dX8_pairs_220 : decode cX8_pairs 220 = .ok (.iload 8, 2) := by decide +kernel
theorem dX8_pairs_222 : decode cX8_pairs 222 = .ok (.aload_n 0, 1) := by decide +kernel
theorem dX8_pairs_223 : decode cX8_pairs 223 = .ok (.getfield 58, 3) := by decide +kernel
theorem dX8_pairs_226 : decode cX8_pairs 226 = .ok (.iload_n 2, 1) := by decide +kernel
theorem dX8_pairs_227 : decode cX8_pairs 227 = .ok (.iaload, 1) := by decide +kernel
theorem dX8_pairs_228 : decode cX8_pairs 228 = .ok (.if_icmp .le 8, 3) := by decide +kernel
theorem dX8_pairs_231 : decode cX8_pairs 231 = .ok (.iload 8, 2) := by decide +kernel
theorem dX8_pairs_233 : decode cX8_pairs 233 = .ok (.goto 9, 3) := by decide +kernel
theorem dX8_pairs_236 : decode cX8_pairs 236 = .ok (.aload_n 0, 1) := by decide +kernel
theorem dX8_pairs_237 : decode cX8_pairs 237 = .ok (.getfield 58, 3) := by decide +kernel
theorem dX8_pairs_240 : decode cX8_pairs 240 = .ok (.iload_n 2, 1) := by decide +kernel
theorem dX8_pairs_241 : decode cX8_pairs 241 = .ok (.iaload, 1) := by decide +kernel
theorem dX8_pairs_242 : decode cX8_pairs 242 = .ok (.iastore, 1) := by decide +kernel
theorem dX8_pairs_243 : decode cX8_pairs 243 = .ok (.iinc 5 1, 3) := by decide +kernel
theorem dX8_pairs_246 : decode cX8_pairs 246 = .ok (.goto (-151), 3) := by decide +kernel
theorem dX8_pairs_249 : decode cX8_pairs 249 = .ok (.iinc 4 1, 3) := by decide +kernel
theorem dX8_pairs_252 : decode cX8_pairs 252 = .ok (.goto (-170), 3) := by decide +kernel
theorem dX8_pairs_255 : decode cX8_pairs 255 = .ok (.iinc 2 1, 3) := by decide +kernel
theorem dX8_pairs_258 : decode cX8_pairs 258 = .ok (.goto (-209), 3) := by decide +kernel
theorem dX8_pairs_261 : decode cX8_pairs 261 = .ok (.aload_n 0, 1) := by decide +kernel
theorem dX8_pairs_262 : decode cX8_pairs 262 = .ok (.getfield 58, 3) := by decide +kernel
theorem dX8_pairs_265 : decode cX8_pairs 265 = .ok (.iload_n 1, 1) := by decide +kernel
theorem dX8_pairs_266 : decode cX8_pairs 266 = .ok (.iaload, 1) := by decide +kernel
theorem dX8_pairs_267 : decode cX8_pairs 267 = .ok (.ireturn, 1) := by decide +kernel
theorem dX8_judge_0 : decode cX8_judge 0 = .ok (.iload_n 1, 1) := by decide +kernel
theorem dX8_judge_1 : decode cX8_judge 1 = .ok (.i2l, 1) := by decide +kernel
theorem dX8_judge_2 : decode cX8_judge 2 = .ok (.lconst 1, 1) := by decide +kernel
theorem dX8_judge_3 : decode cX8_judge 3 = .ok (.ldc2_w 200, 3) := by decide +kernel
theorem dX8_judge_6 : decode cX8_judge 6 = .ok (.invokestatic 80, 3) := by decide +kernel
theorem dX8_judge_9 : decode cX8_judge 9 = .ok (.ifCond .eq 21, 3) := by decide +kernel
theorem dX8_judge_12 : decode cX8_judge 12 = .ok (.iload_n 2, 1) := by decide +kernel
theorem dX8_judge_13 : decode cX8_judge 13 = .ok (.i2l, 1) := by decide +kernel
theorem dX8_judge_14 : decode cX8_judge 14 = .ok (.lconst 0, 1) := by decide +kernel
theorem dX8_judge_15 : decode cX8_judge 15 = .ok (.bipush 10, 2) := by decide +kernel
theorem dX8_judge_17 : decode cX8_judge 17 = .ok (.iload_n 1, 1) := by decide +kernel
theorem dX8_judge_18 : decode cX8_judge 18 = .ok (.invokestatic 159, 3) := by decide +kernel
theorem dX8_judge_21 : decode cX8_judge 21 = .ok (.iconst 1, 1) := by decide +kernel
theorem dX8_judge_22 : decode cX8_judge 22 = .ok (.isub, 1) := by decide +kernel
theorem dX8_judge_23 : decode cX8_judge 23 = .ok (.i2l, 1) := by decide +kernel
theorem dX8_judge_24 : decode cX8_judge 24 = .ok (.invokestatic 80, 3) := by decide +kernel
theorem dX8_judge_27 : decode cX8_judge 27 = .ok (.ifCond .ne 6, 3) := by decide +kernel
theorem dX8_judge_30 : decode cX8_judge 30 = .ok (.bipush (-2), 2) := by decide +kernel
theorem dX8_judge_32 : decode cX8_judge 32 = .ok (.ireturn, 1) := by decide +kernel
theorem dX8_judge_33 : decode cX8_judge 33 = .ok (.aload_n 0, 1) := by decide +kernel
theorem dX8_judge_34 : decode cX8_judge 34 = .ok (.iconst 0, 1) := by decide +kernel
theorem dX8_judge_35 : decode cX8_judge 35 = .ok (.iconst 1, 1) := by decide +kernel
theorem dX8_judge_36 : decode cX8_judge 36 = .ok (.invokevirtual 166, 3) := by decide +kernel
theorem dX8_judge_39 : decode cX8_judge 39 = .ok (.iconst 0, 1) := by decide +kernel
theorem dX8_judge_40 : decode cX8_judge 40 = .ok (.istore_n 3, 1) := by decide +kernel
theorem dX8_judge_41 : decode cX8_judge 41 = .ok (.iload_n 3, 1) := by decide +kernel
theorem dX8_judge_42 : decode cX8_judge 42 = .ok (.iload_n 1, 1) := by decide +kernel
theorem dX8_judge_43 : decode cX8_judge 43 = .ok (.if_icmp .ge 118, 3) := by decide +kernel
theorem dX8_judge_46 : decode cX8_judge 46 = .ok (.iload_n 2, 1) := by decide +kernel
theorem dX8_judge_47 : decode cX8_judge 47 = .ok (.bipush 10, 2) := by decide +kernel
theorem dX8_judge_49 : decode cX8_judge 49 = .ok (.iload_n 1, 1) := by decide +kernel
theorem dX8_judge_50 : decode cX8_judge 50 = .ok (.iconst 1, 1) := by decide +kernel
theorem dX8_judge_51 : decode cX8_judge 51 = .ok (.isub, 1) := by decide +kernel
theorem dX8_judge_52 : decode cX8_judge 52 = .ok (.iload_n 3, 1) := by decide +kernel
theorem dX8_judge_53 : decode cX8_judge 53 = .ok (.isub, 1) := by decide +kernel
theorem dX8_judge_54 : decode cX8_judge 54 = .ok (.invokestatic 159, 3) := by decide +kernel
theorem dX8_judge_57 : decode cX8_judge 57 = .ok (.idiv, 1) := by decide +kernel
theorem dX8_judge_58 : decode cX8_judge 58 = .ok (.bipush 10, 2) := by decide +kernel
theorem dX8_judge_60 : decode cX8_judge 60 = .ok (.irem, 1) := by decide +kernel
theorem dX8_judge_61 : decode cX8_judge 61 = .ok (.istore 4, 2) := by decide +kernel
theorem dX8_judge_63 : decode cX8_judge 63 = .ok (.iload 4, 2) := by decide +kernel
theorem dX8_judge_65 : decode cX8_judge 65 = .ok (.iconst 4, 1) := by decide +kernel
theorem dX8_judge_66 : decode cX8_judge 66 = .ok (.if_icmp .ne 23, 3) := by decide +kernel
theorem dX8_judge_69 : decode cX8_judge 69 = .ok (.aload_n 0, 1) := by decide +kernel
theorem dX8_judge_70 : decode cX8_judge 70 = .ok (.getfield 34, 3) := by decide +kernel
theorem dX8_judge_73 : decode cX8_judge 73 = .ok (.bipush 35, 2) := by decide +kernel
theorem dX8_judge_75 : decode cX8_judge 75 = .ok (.iaload, 1) := by decide +kernel
theorem dX8_judge_76 : decode cX8_judge 76 = .ok (.bipush 20, 2) := by decide +kernel
theorem dX8_judge_78 : decode cX8_judge 78 = .ok (.if_icmp .ge 7, 3) := by decide +kernel
theorem dX8_judge_81 : decode cX8_judge 81 = .ok (.iconst 1, 1) := by decide +kernel
theorem dX8_judge_82 : decode cX8_judge 82 = .ok (.goto 34, 3) := by decide +kernel
theorem dX8_judge_85 : decode cX8_judge 85 = .ok (.iconst 0, 1) := by decide +kernel
theorem dX8_judge_86 : decode cX8_judge 86 = .ok (.goto 30, 3) := by decide +kernel
theorem dX8_judge_89 : decode cX8_judge 89 = .ok (.aload_n 0, 1) := by decide +kernel
theorem dX8_judge_90 : decode cX8_judge 90 = .ok (.iload 4, 2) := by decide +kernel
theorem dX8_judge_92 : decode cX8_judge 92 = .ok (.invokevirtual 131, 3) := by decide +kernel
theorem dX8_judge_95 : decode cX8_judge 95 = .ok (.ifCond .eq 20, 3) := by decide +kernel
theorem dX8_judge_98 : decode cX8_judge 98 = .ok (.aload_n 0, 1) := by decide +kernel
theorem dX8_judge_99 : decode cX8_judge 99 = .ok (.getfield 34, 3) := by decide +kernel
theorem dX8_judge_102 : decode cX8_judge 102 = .ok (.bipush 26, 2) := by decide +kernel
theorem dX8_judge_104 : decode cX8_judge 104 = .ok (.iload 4, 2) := by decide +kernel
theorem dX8_judge_106 : decode cX8_judge 106 = .ok (.iadd, 1) := by decide +kernel
theorem dX8_judge_107 : decode cX8_judge 107 = .ok (.iaload, 1) := by decide +kernel
theorem dX8_judge_108 : decode cX8_judge 108 = .ok (.ifCond .ne 7, 3) := by decide +kernel
theorem dX8_judge_111 : decode cX8_judge 111 = .ok (.iconst 1, 1) := by decide +kernel
theorem dX8_judge_112 : decode cX8_judge 112 = .ok (.goto 4, 3) := by decide +kernel
theorem dX8_judge_115 : decode cX8_judge 115 = .ok (.iconst 0, 1) := by decide +kernel
theorem dX8_judge_116 : decode cX8_judge 116 = .ok (.istore 5, 2) := by decide +kernel
theorem dX8_judge_118 : decode cX8_judge 118 = .ok (.iload 5, 2) := by decide +kernel
theorem dX8_judge_120 : decode cX8_judge 120 = .ok (.ifCond .ne 5, 3) := by decide +kernel
theorem dX8_judge_123 : decode cX8_judge 123 = .ok (.iload_n 3, 1) := by decide +kernel
theorem dX8_judge_124 : decode cX8_judge 124 = .ok (.ireturn, 1) := by decide +kernel
theorem dX8_judge_125 : decode cX8_judge 125 = .ok (.iload 4, 2) := by decide +kernel
theorem dX8_judge_127 : decode cX8_judge 127 = .ok (.iconst 4, 1) := by decide +kernel
theorem dX8_judge_128 : decode cX8_judge 128 = .ok (.if_icmp .ge 17, 3) := by decide +kernel
theorem dX8_judge_131 : decode cX8_judge 131 = .ok (.aload_n 0, 1) := by decide +kernel
theorem dX8_judge_132 : decode cX8_judge 132 = .ok (.getfield 34, 3) := by decide +kernel
theorem dX8_judge_135 : decode cX8_judge 135 = .ok (.bipush 26, 2) := by decide +kernel
theorem dX8_judge_137 : decode cX8_judge 137 = .ok (.iload 4, 2) := by decide +kernel
theorem dX8_judge_139 : decode cX8_judge 139 = .ok (.iadd, 1) := by decide +kernel
theorem dX8_judge_140 : decode cX8_judge 140 = .ok (.iconst 1, 1) := by decide +kernel
theorem dX8_judge_141 : decode cX8_judge 141 = .ok (.iastore, 1) := by decide +kernel
theorem dX8_judge_142 : decode cX8_judge 142 = .ok (.goto 13, 3) := by decide +kernel
theorem dX8_judge_145 : decode cX8_judge 145 = .ok (.aload_n 0, 1) := by decide +kernel
theorem dX8_judge_146 : decode cX8_judge 146 = .ok (.iconst 1, 1) := by decide +kernel
theorem dX8_judge_147 : decode cX8_judge 147 = .ok (.invokevirtual 156, 3) := by decide +kernel
theorem dX8_judge_150 : decode cX8_judge 150 = .ok (.ifCond .ne 5, 3) := by decide +kernel
theorem dX8_judge_153 : decode cX8_judge 153 = .ok (.iload_n 3, 1) := by decide +kernel
theorem dX8_judge_154 : decode cX8_judge 154 = .ok (.ireturn, 1) := by decide +kernel
theorem dX8_judge_155 : decode cX8_judge 155 = .ok (.iinc 3 1, 3) := by decide +kernel
theorem dX8_judge_158 : decode cX8_judge 158 = .ok (.goto (-117), 3) := by decide +kernel
theorem dX8_judge_161 : decode cX8_judge 161 = .ok (.bipush (-9), 2) := by decide +kernel
theorem dX8_judge_163 : decode cX8_judge 163 = .ok (.ireturn, 1) := by decide +kernel
theorem dX8_isSo_0 : decode cX8_isSo 0 = .ok (.iload_n 1, 1) := by decide +kernel
theorem dX8_isSo_1 : decode cX8_isSo 1 = .ok (.i2l, 1) := by decide +kernel
theorem dX8_isSo_2 : decode cX8_isSo 2 = .ok (.lconst 0, 1) := by decide +kernel
theorem dX8_isSo_3 : decode cX8_isSo 3 = .ok (.aload_n 0, 1) := by decide +kernel
theorem dX8_isSo_4 : decode cX8_isSo 4 = .ok (.getfield 74, 3) := by decide +kernel
theorem dX8_isSo_7 : decode cX8_isSo 7 = .ok (.iload_n 2, 1) := by decide +kernel
theorem dX8_isSo_8 : decode cX8_isSo 8 = .ok (.isub, 1) := by decide +kernel
theorem dX8_isSo_9 : decode cX8_isSo 9 = .ok (.i2l, 1) := by decide +kernel
theorem dX8_isSo_10 : decode cX8_isSo 10 = .ok (.invokestatic 80, 3) := by decide +kernel
theorem dX8_isSo_13 : decode cX8_isSo 13 = .ok (.istore 4, 2) := by decide +kernel
theorem dX8_isSo_15 : decode cX8_isSo 15 = .ok (.iconst 0, 1) := by decide +kernel
theorem dX8_isSo_16 : decode cX8_isSo 16 = .ok (.istore 5, 2) := by decide +kernel
theorem dX8_isSo_18 : decode cX8_isSo 18 = .ok (.iload 5, 2) := by decide +kernel
theorem dX8_isSo_20 : decode cX8_isSo 20 = .ok (.iload_n 2, 1) := by decide +kernel
theorem dX8_isSo_21 : decode cX8_isSo 21 = .ok (.if_icmp .ge 64, 3) := by decide +kernel
theorem dX8_isSo_24 : decode cX8_isSo 24 = .ok (.iload 4, 2) := by decide +kernel
theorem dX8_isSo_26 : decode cX8_isSo 26 = .ok (.ifCond .eq 59, 3) := by decide +kernel
theorem dX8_isSo_29 : decode cX8_isSo 29 = .ok (.iload_n 3, 1) := by decide +kernel
theorem dX8_isSo_30 : decode cX8_isSo 30 = .ok (.bipush 10, 2) := by decide +kernel
theorem dX8_isSo_32 : decode cX8_isSo 32 = .ok (.iload_n 2, 1) := by decide +kernel
theorem dX8_isSo_33 : decode cX8_isSo 33 = .ok (.iconst 1, 1) := by decide +kernel
theorem dX8_isSo_34 : decode cX8_isSo 34 = .ok (.isub, 1) := by decide +kernel
theorem dX8_isSo_35 : decode cX8_isSo 35 = .ok (.iload 5, 2) := by decide +kernel
theorem dX8_isSo_37 : decode cX8_isSo 37 = .ok (.isub, 1) := by decide +kernel
theorem dX8_isSo_38 : decode cX8_isSo 38 = .ok (.invokestatic 159, 3) := by decide +kernel
theorem dX8_isSo_41 : decode cX8_isSo 41 = .ok (.idiv, 1) := by decide +kernel
theorem dX8_isSo_42 : decode cX8_isSo 42 = .ok (.bipush 10, 2) := by decide +kernel
theorem dX8_isSo_44 : decode cX8_isSo 44 = .ok (.irem, 1) := by decide +kernel
theorem dX8_isSo_45 : decode cX8_isSo 45 = .ok (.istore 6, 2) := by decide +kernel
theorem dX8_isSo_47 : decode cX8_isSo 47 = .ok (.aload_n 0, 1) := by decide +kernel
theorem dX8_isSo_48 : decode cX8_isSo 48 = .ok (.getfield 7, 3) := by decide +kernel
theorem dX8_isSo_51 : decode cX8_isSo 51 = .ok (.iload_n 1, 1) := by decide +kernel
theorem dX8_isSo_52 : decode cX8_isSo 52 = .ok (.iload 5, 2) := by decide +kernel
theorem dX8_isSo_54 : decode cX8_isSo 54 = .ok (.iadd, 1) := by decide +kernel
theorem dX8_isSo_55 : decode cX8_isSo 55 = .ok (.iaload, 1) := by decide +kernel
theorem dX8_isSo_56 : decode cX8_isSo 56 = .ok (.iload 6, 2) := by decide +kernel
theorem dX8_isSo_58 : decode cX8_isSo 58 = .ok (.ifCond .ne 7, 3) := by decide +kernel
theorem dX8_isSo_61 : decode cX8_isSo 61 = .ok (.iconst 4, 1) := by decide +kernel
theorem dX8_isSo_62 : decode cX8_isSo 62 = .ok (.goto 7, 3) := by decide +kernel
theorem dX8_isSo_65 : decode cX8_isSo 65 = .ok (.iload 6, 2) := by decide +kernel
theorem dX8_isSo_67 : decode cX8_isSo 67 = .ok (.iconst 1, 1) := by decide +kernel
theorem dX8_isSo_68 : decode cX8_isSo 68 = .ok (.isub, 1) := by decide +kernel
theorem dX8_isSo_69 : decode cX8_isSo 69 = .ok (.if_icmp .ne 7, 3) := by decide +kernel
theorem dX8_isSo_72 : decode cX8_isSo 72 = .ok (.iconst 1, 1) := by decide +kernel
theorem dX8_isSo_73 : decode cX8_isSo 73 = .ok (.goto 4, 3) := by decide +kernel
theorem dX8_isSo_76 : decode cX8_isSo 76 = .ok (.iconst 0, 1) := by decide +kernel
theorem dX8_isSo_77 : decode cX8_isSo 77 = .ok (.istore 4, 2) := by decide +kernel
theorem dX8_isSo_79 : decode cX8_isSo 79 = .ok (.iinc 5 1, 3) := by decide +kernel
theorem dX8_isSo_82 : decode cX8_isSo 82 = .ok (.goto (-64), 3) := by decide +kernel
theorem dX8_isSo_85 : decode cX8_isSo 85 = .ok (.iload 4, 2) := by decide +kernel
theorem dX8_isSo_87 : decode cX8_isSo 87 = .ok (.ireturn, 1) := by decide +kernel
theorem dX8_stub_0 : decode cX8_stub 0 = .ok (.iload_n 1, 1) := by decide +kernel
theorem dX8_stub_1 : decode cX8_stub 1 = .ok (.i2l, 1) := by decide +kernel
theorem dX8_stub_2 : decode cX8_stub 2 = .ok (.lconst 1, 1) := by decide +kernel
theorem dX8_stub_3 : decode cX8_stub 3 = .ok (.ldc2_w 202, 3) := by decide +kernel
theorem dX8_stub_6 : decode cX8_stub 6 = .ok (.invokestatic 80, 3) := by decide +kernel
theorem dX8_stub_9 : decode cX8_stub 9 = .ok (.ifCond .eq 21, 3) := by decide +kernel
theorem dX8_stub_12 : decode cX8_stub 12 = .ok (.iload_n 2, 1) := by decide +kernel
theorem dX8_stub_13 : decode cX8_stub 13 = .ok (.i2l, 1) := by decide +kernel
theorem dX8_stub_14 : decode cX8_stub 14 = .ok (.lconst 0, 1) := by decide +kernel
theorem dX8_stub_15 : decode cX8_stub 15 = .ok (.bipush 10, 2) := by decide +kernel
theorem dX8_stub_17 : decode cX8_stub 17 = .ok (.iload_n 1, 1) := by decide +kernel
theorem dX8_stub_18 : decode cX8_stub 18 = .ok (.invokestatic 159, 3) := by decide +kernel
theorem dX8_stub_21 : decode cX8_stub 21 = .ok (.iconst 1, 1) := by decide +kernel
theorem dX8_stub_22 : decode cX8_stub 22 = .ok (.isub, 1) := by decide +kernel
theorem dX8_stub_23 : decode cX8_stub 23 = .ok (.i2l, 1) := by decide +kernel
theorem dX8_stub_24 : decode cX8_stub 24 = .ok (.invokestatic 80, 3) := by decide +kernel
theorem dX8_stub_27 : decode cX8_stub 27 = .ok (.ifCond .ne 6, 3) := by decide +kernel
theorem dX8_stub_30 : decode cX8_stub 30 = .ok (.bipush (-2), 2) := by decide +kernel
theorem dX8_stub_32 : decode cX8_stub 32 = .ok (.ireturn, 1) := by decide +kernel
theorem dX8_stub_33 : decode cX8_stub 33 = .ok (.iconst 0, 1) := by decide +kernel
theorem dX8_stub_34 : decode cX8_stub 34 = .ok (.istore 4, 2) := by decide +kernel
theorem dX8_stub_36 : decode cX8_stub 36 = .ok (.iload 4, 2) := by decide +kernel
theorem dX8_stub_38 : decode cX8_stub 38 = .ok (.iload_n 1, 1) := by decide +kernel
theorem dX8_stub_39 : decode cX8_stub 39 = .ok (.if_icmp .ge 28, 3) := by decide +kernel
theorem dX8_stub_42 : decode cX8_stub 42 = .ok (.iload_n 2, 1) := by decide +kernel
theorem dX8_stub_43 : decode cX8_stub 43 = .ok (.bipush 10, 2) := by decide +kernel
theorem dX8_stub_45 : decode cX8_stub 45 = .ok (.iload 4, 2) := by decide +kernel
theorem dX8_stub_47 : decode cX8_stub 47 = .ok (.invokestatic 159, 3) := by decide +kernel
theorem dX8_stub_50 : decode cX8_stub 50 = .ok (.idiv, 1) := by decide +kernel
theorem dX8_stub_51 : decode cX8_stub 51 = .ok (.bipush 10, 2) := by decide +kernel
theorem dX8_stub_53 : decode cX8_stub 53 = .ok (.irem, 1) := by decide +kernel
theorem dX8_stub_54 : decode cX8_stub 54 = .ok (.iconst 4, 1) := by decide +kernel
theorem dX8_stub_55 : decode cX8_stub 55 = .ok (.if_icmp .le 6, 3) := by decide +kernel
theorem dX8_stub_58 : decode cX8_stub 58 = .ok (.bipush (-2), 2) := by decide +kernel
theorem dX8_stub_60 : decode cX8_stub 60 = .ok (.ireturn, 1) := by decide +kernel
theorem dX8_stub_61 : decode cX8_stub 61 = .ok (.iinc 4 1, 3) := by decide +kernel
theorem dX8_stub_64 : decode cX8_stub 64 = .ok (.goto (-28), 3) := by decide +kernel
theorem dX8_stub_67 : decode cX8_stub 67 = .ok (.iconst 0, 1) := by decide +kernel
theorem dX8_stub_68 : decode cX8_stub 68 = .ok (.istore 4, 2) := by decide +kernel
theorem dX8_stub_70 : decode cX8_stub 70 = .ok (.iconst 0, 1) := by decide +kernel
theorem dX8_stub_71 : decode cX8_stub 71 = .ok (.istore 5, 2) := by decide +kernel
theorem dX8_stub_73 : decode cX8_stub 73 = .ok (.iload 5, 2) := by decide +kernel
theorem dX8_stub_75 : decode cX8_stub 75 = .ok (.aload_n 0, 1) := by decide +kernel
theorem dX8_stub_76 : decode cX8_stub 76 = .ok (.getfield 122, 3) := by decide +kernel
theorem dX8_stub_79 : decode cX8_stub 79 = .ok (.if_icmp .ge 59, 3) := by decide +kernel
theorem dX8_stub_82 : decode cX8_stub 82 = .ok (.iload 4, 2) := by decide +kernel
theorem dX8_stub_84 : decode cX8_stub 84 = .ok (.aload_n 0, 1) := by decide +kernel
theorem dX8_stub_85 : decode cX8_stub 85 = .ok (.getfield 16, 3) := by decide +kernel
theorem dX8_stub_88 : decode cX8_stub 88 = .ok (.iload 5, 2) := by decide +kernel
theorem dX8_stub_90 : decode cX8_stub 90 = .ok (.iaload, 1) := by decide +kernel
theorem dX8_stub_91 : decode cX8_stub 91 = .ok (.iload_n 1, 1) := by decide +kernel
theorem dX8_stub_92 : decode cX8_stub 92 = .ok (.if_icmp .lt 36, 3) := by decide +kernel
theorem dX8_stub_95 : decode cX8_stub 95 = .ok (.aload_n 0, 1) := by decide +kernel
theorem dX8_stub_96 : decode cX8_stub 96 = .ok (.aload_n 0, 1) := by decide +kernel
theorem dX8_stub_97 : decode cX8_stub 97 = .ok (.getfield 13, 3) := by decide +kernel
theorem dX8_stub_100 : decode cX8_stub 100 = .ok (.iload 5, 2) := by decide +kernel
theorem dX8_stub_102 : decode cX8_stub 102 = .ok (.iaload, 1) := by decide +kernel
theorem dX8_stub_103 : decode cX8_stub 103 = .ok (.aload_n 0, 1) := by decide +kernel
theorem dX8_stub_104 : decode cX8_stub 104 = .ok (.getfield 16, 3) := by decide +kernel
theorem dX8_stub_107 : decode cX8_stub 107 = .ok (.iload 5, 2) := by decide +kernel
theorem dX8_stub_109 : decode cX8_stub 109 = .ok (.iaload, 1) := by decide +kernel
theorem dX8_stub_110 : decode cX8_stub 110 = .ok (.iadd, 1) := by decide +kernel
theorem dX8_stub_111 : decode cX8_stub 111 = .ok (.iload_n 1, 1) := by decide +kernel
theorem dX8_stub_112 : decode cX8_stub 112 = .ok (.isub, 1) := by decide +kernel
theorem dX8_stub_113 : decode cX8_stub 113 = .ok (.iload_n 1, 1) := by decide +kernel
theorem dX8_stub_114 : decode cX8_stub 114 = .ok (.iload_n 2, 1) := by decide +kernel
theorem dX8_stub_115 : decode cX8_stub 115 = .ok (.invokevirtual 204, 3) := by decide +kernel
theorem dX8_stub_118 : decode cX8_stub 118 = .ok (.ifCond .eq 10, 3) := by decide +kernel
theorem dX8_stub_121 : decode cX8_stub 121 = .ok (.iconst 1, 1) := by decide +kernel
theorem dX8_stub_122 : decode cX8_stub 122 = .ok (.iload 5, 2) := by decide +kernel
theorem dX8_stub_124 : decode cX8_stub 124 = .ok (.ishl, 1) := by decide +kernel
theorem dX8_stub_125 : decode cX8_stub 125 = .ok (.goto 4, 3) := by decide +kernel
theorem dX8_stub_128 : decode cX8_stub 128 = .ok (.iconst 0, 1) := by decide +kernel
theorem dX8_stub_129 : decode cX8_stub 129 = .ok (.ior, 1) := by decide +kernel
theorem dX8_stub_130 : decode cX8_stub 130 = .ok (.istore 4, 2) := by decide +kernel
theorem dX8_stub_132 : decode cX8_stub 132 = .ok (.iinc 5 1, 3) := by decide +kernel
theorem dX8_stub_135 : decode cX8_stub 135 = .ok (.goto (-62), 3) := by decide +kernel
theorem dX8_stub_138 : decode cX8_stub 138 = .ok (.iconst 0, 1) := by decide +kernel
theorem dX8_stub_139 : decode cX8_stub 139 = .ok (.istore 5, 2) := by decide +kernel
theorem dX8_stub_141 : decode cX8_stub 141 = .ok (.iconst 0, 1) := by decide +kernel
theorem dX8_stub_142 : decode cX8_stub 142 = .ok (.istore 6, 2) := by decide +kernel
theorem dX8_stub_144 : decode cX8_stub 144 = .ok (.iload 6, 2) := by decide +kernel
theorem dX8_stub_146 : decode cX8_stub 146 = .ok (.aload_n 0, 1) := by decide +kernel
theorem dX8_stub_147 : decode cX8_stub 147 = .ok (.getfield 74, 3) := by decide +kernel
theorem dX8_stub_150 : decode cX8_stub 150 = .ok (.if_icmp .ge 30, 3) := by decide +kernel
theorem dX8_stub_153 : decode cX8_stub 153 = .ok (.iload 5, 2) := by decide +kernel
theorem dX8_stub_155 : decode cX8_stub 155 = .ok (.aload_n 0, 1) := by decide +kernel
theorem dX8_stub_156 : decode cX8_stub 156 = .ok (.iload 6, 2) := by decide +kernel
theorem dX8_stub_158 : decode cX8_stub 158 = .ok (.iload_n 1, 1) := by decide +kernel
theorem dX8_stub_159 : decode cX8_stub 159 = .ok (.iload_n 2, 1) := by decide +kernel
theorem dX8_stub_160 : decode cX8_stub 160 = .ok (.invokevirtual 204, 3) := by decide +kernel
theorem dX8_stub_163 : decode cX8_stub 163 = .ok (.ifCond .eq 7, 3) := by decide +kernel
theorem dX8_stub_166 : decode cX8_stub 166 = .ok (.iconst 1, 1) := by decide +kernel
theorem dX8_stub_167 : decode cX8_stub 167 = .ok (.goto 4, 3) := by decide +kernel
theorem dX8_stub_170 : decode cX8_stub 170 = .ok (.iconst 0, 1) := by decide +kernel
theorem dX8_stub_171 : decode cX8_stub 171 = .ok (.iadd, 1) := by decide +kernel
theorem dX8_stub_172 : decode cX8_stub 172 = .ok (.istore 5, 2) := by decide +kernel
theorem dX8_stub_174 : decode cX8_stub 174 = .ok (.iinc 6 1, 3) := by decide +kernel
theorem dX8_stub_177 : decode cX8_stub 177 = .ok (.goto (-33), 3) := by decide +kernel
theorem dX8_stub_180 : decode cX8_stub 180 = .ok (.iload_n 3, 1) := by decide +kernel
theorem dX8_stub_181 : decode cX8_stub 181 = .ok (.ifCond .eq 8, 3) := by decide +kernel
theorem dX8_stub_184 : decode cX8_stub 184 = .ok (.iload 4, 2) := by decide +kernel
theorem dX8_stub_186 : decode cX8_stub 186 = .ok (.goto 5, 3) := by decide +kernel
theorem dX8_stub_189 : decode cX8_stub 189 = .ok (.iload 5, 2) := by decide +kernel
theorem dX8_stub_191 : decode cX8_stub 191 = .ok (.ireturn, 1) := by decide +kernel
theorem dX8_see_0 : decode cX8_see 0 = .ok (.iload_n 1, 1) := by decide +kernel
theorem dX8_see_1 : decode cX8_see 1 = .ok (.i2l, 1) := by decide +kernel
theorem dX8_see_2 : decode cX8_see 2 = .ok (.lconst 0, 1) := by decide +kernel
theorem dX8_see_3 : decode cX8_see 3 = .ok (.ldc2_w 208, 3) := by decide +kernel
theorem dX8_see_6 : decode cX8_see 6 = .ok (.invokestatic 80, 3) := by decide +kernel
theorem dX8_see_9 : decode cX8_see 9 = .ok (.ifCond .ne 6, 3) := by decide +kernel
theorem dX8_see_12 : decode cX8_see 12 = .ok (.bipush (-2), 2) := by decide +kernel
theorem dX8_see_14 : decode cX8_see 14 = .ok (.ireturn, 1) := by decide +kernel
theorem dX8_see_15 : decode cX8_see 15 = .ok (.aload_n 0, 1) := by decide +kernel
theorem dX8_see_16 : decode cX8_see 16 = .ok (.getfield 210, 3) := by decide +kernel
theorem dX8_see_19 : decode cX8_see 19 = .ok (.bipush 6, 2) := by decide +kernel
theorem dX8_see_21 : decode cX8_see 21 = .ok (.if_icmp .ne 6, 3) := by decide +kernel
theorem dX8_see_24 : decode cX8_see 24 = .ok (.bipush (-4), 2) := by decide +kernel
theorem dX8_see_26 : decode cX8_see 26 = .ok (.ireturn, 1) := by decide +kernel
theorem dX8_see_27 : decode cX8_see 27 = .ok (.aload_n 0, 1) := by decide +kernel
theorem dX8_see_28 : decode cX8_see 28 = .ok (.getfield 61, 3) := by decide +kernel
theorem dX8_see_31 : decode cX8_see 31 = .ok (.aload_n 0, 1) := by decide +kernel
theorem dX8_see_32 : decode cX8_see 32 = .ok (.getfield 210, 3) := by decide +kernel
theorem dX8_see_35 : decode cX8_see 35 = .ok (.iload_n 1, 1) := by decide +kernel
theorem dX8_see_36 : decode cX8_see 36 = .ok (.iastore, 1) := by decide +kernel
theorem dX8_see_37 : decode cX8_see 37 = .ok (.aload_n 0, 1) := by decide +kernel
theorem dX8_see_38 : decode cX8_see 38 = .ok (.dup, 1) := by decide +kernel
theorem dX8_see_39 : decode cX8_see 39 = .ok (.getfield 210, 3) := by decide +kernel
theorem dX8_see_42 : decode cX8_see 42 = .ok (.iconst 1, 1) := by decide +kernel
theorem dX8_see_43 : decode cX8_see 43 = .ok (.iadd, 1) := by decide +kernel
theorem dX8_see_44 : decode cX8_see 44 = .ok (.putfield 210, 3) := by decide +kernel
theorem dX8_see_47 : decode cX8_see 47 = .ok (.aload_n 0, 1) := by decide +kernel
theorem dX8_see_48 : decode cX8_see 48 = .ok (.getfield 210, 3) := by decide +kernel
theorem dX8_see_51 : decode cX8_see 51 = .ok (.ireturn, 1) := by decide +kernel
theorem dX8_unsee_0 : decode cX8_unsee 0 = .ok (.aload_n 0, 1) := by decide +kernel
theorem dX8_unsee_1 : decode cX8_unsee 1 = .ok (.getfield 210, 3) := by decide +kernel
theorem dX8_unsee_4 : decode cX8_unsee 4 = .ok (.istore_n 1, 1) := by decide +kernel
theorem dX8_unsee_5 : decode cX8_unsee 5 = .ok (.aload_n 0, 1) := by decide +kernel
theorem dX8_unsee_6 : decode cX8_unsee 6 = .ok (.iconst 0, 1) := by decide +kernel
theorem dX8_unsee_7 : decode cX8_unsee 7 = .ok (.putfield 210, 3) := by decide +kernel
theorem dX8_unsee_10 : decode cX8_unsee 10 = .ok (.iload_n 1, 1) := by decide +kernel
theorem dX8_unsee_11 : decode cX8_unsee 11 = .ok (.ireturn, 1) := by decide +kernel
theorem dX8_fromOf_0 : decode cX8_fromOf 0 = .ok (.iconst 0, 1) := by decide +kernel
theorem dX8_fromOf_1 : decode cX8_fromOf 1 = .ok (.istore_n 2, 1) := by decide +kernel
theorem dX8_fromOf_2 : decode cX8_fromOf 2 = .ok (.iconst 0, 1) := by decide +kernel
theorem dX8_fromOf_3 : decode cX8_fromOf 3 = .ok (.istore_n 3, 1) := by decide +kernel
theorem dX8_fromOf_4 : decode cX8_fromOf 4 = .ok (.iload_n 3, 1) := by decide +kernel
theorem dX8_fromOf_5 : decode cX8_fromOf 5 = .ok (.aload_n 0, 1) := by decide +kernel
theorem dX8_fromOf_6 : decode cX8_fromOf 6 = .ok (.getfield 74, 3) := by decide +kernel
theorem dX8_fromOf_9 : decode cX8_fromOf 9 = .ok (.iload_n 1, 1) := by decide +kernel
theorem dX8_fromOf_10 : decode cX8_fromOf 10 = .ok (.isub, 1) := by decide +kernel
theorem dX8_fromOf_11 : decode cX8_fromOf 11 = .ok (.if_icmp .gt 84, 3) := by decide +kernel
theorem dX8_fromOf_14 : decode cX8_fromOf 14 = .ok (.aload_n 0, 1) := by decide +kernel
theorem dX8_fromOf_15 : decode cX8_fromOf 15 = .ok (.getfield 210, 3) := by decide +kernel
theorem dX8_fromOf_18 : decode cX8_fromOf 18 = .ok (.iload_n 1, 1) := by decide +kernel
theorem dX8_fromOf_19 : decode cX8_fromOf 19 = .ok (.if_icmp .gt 76, 3) := by decide +kernel
theorem dX8_fromOf_22 : decode cX8_fromOf 22 = .ok (.iconst 1, 1) := by decide +kernel
theorem dX8_fromOf_23 : decode cX8_fromOf 23 = .ok (.istore 4, 2) := by decide +kernel
theorem dX8_fromOf_25 : decode cX8_fromOf 25 = .ok (.iconst 0, 1) := by decide +kernel
theorem dX8_fromOf_26 : decode cX8_fromOf 26 = .ok (.istore 5, 2) := by decide +kernel
theorem dX8_fromOf_28 : decode cX8_fromOf 28 = .ok (.iload 5, 2) := by decide +kernel
theorem dX8_fromOf_30 : decode cX8_fromOf 30 = .ok (.aload_n 0, 1) := by decide +kernel
theorem dX8_fromOf_31 : decode cX8_fromOf 31 = .ok (.getfield 210, 3) := by decide +kernel
theorem dX8_fromOf_34 : decode cX8_fromOf 34 = .ok (.if_icmp .ge 40, 3) := by decide +kernel
theorem dX8_fromOf_37 : decode cX8_fromOf 37 = .ok (.iload 4, 2) := by decide +kernel
theorem dX8_fromOf_39 : decode cX8_fromOf 39 = .ok (.ifCond .eq 26, 3) := by decide +kernel
theorem dX8_fromOf_42 : decode cX8_fromOf 42 = .ok (.aload_n 0, 1) := by decide +kernel
theorem dX8_fromOf_43 : decode cX8_fromOf 43 = .ok (.getfield 7, 3) := by decide +kernel
theorem dX8_fromOf_46 : decode cX8_fromOf 46 = .ok (.iload_n 3, 1) := by decide +kernel
theorem dX8_fromOf_47 : decode cX8_fromOf 47 = .ok (.iload 5, 2) := by decide +kernel
theorem dX8_fromOf_49 : decode cX8_fromOf 49 = .ok (.iadd, 1) := by decide +kernel
theorem dX8_fromOf_50 : decode cX8_fromOf 50 = .ok (.iaload, 1) := by decide +kernel
theorem dX8_fromOf_51 : decode cX8_fromOf 51 = .ok (.aload_n 0, 1) := by decide +kernel
theorem dX8_fromOf_52 : decode cX8_fromOf 52 = .ok (.getfield 61, 3) := by decide +kernel
theorem dX8_fromOf_55 : decode cX8_fromOf 55 = .ok (.iload 5, 2) := by decide +kernel
theorem dX8_fromOf_57 : decode cX8_fromOf 57 = .ok (.iaload, 1) := by decide +kernel
theorem dX8_fromOf_58 : decode cX8_fromOf 58 = .ok (.if_icmp .ne 7, 3) := by decide +kernel
theorem dX8_fromOf_61 : decode cX8_fromOf 61 = .ok (.iconst 1, 1) := by decide +kernel
theorem dX8_fromOf_62 : decode cX8_fromOf 62 = .ok (.goto 4, 3) := by decide +kernel
theorem dX8_fromOf_65 : decode cX8_fromOf 65 = .ok (.iconst 0, 1) := by decide +kernel
theorem dX8_fromOf_66 : decode cX8_fromOf 66 = .ok (.istore 4, 2) := by decide +kernel
theorem dX8_fromOf_68 : decode cX8_fromOf 68 = .ok (.iinc 5 1, 3) := by decide +kernel
theorem dX8_fromOf_71 : decode cX8_fromOf 71 = .ok (.goto (-43), 3) := by decide +kernel
theorem dX8_fromOf_74 : decode cX8_fromOf 74 = .ok (.iload_n 2, 1) := by decide +kernel
theorem dX8_fromOf_75 : decode cX8_fromOf 75 = .ok (.iload 4, 2) := by decide +kernel
theorem dX8_fromOf_77 : decode cX8_fromOf 77 = .ok (.ifCond .eq 9, 3) := by decide +kernel
theorem dX8_fromOf_80 : decode cX8_fromOf 80 = .ok (.iconst 1, 1) := by decide +kernel
theorem dX8_fromOf_81 : decode cX8_fromOf 81 = .ok (.iload_n 3, 1) := by decide +kernel
theorem dX8_fromOf_82 : decode cX8_fromOf 82 = .ok (.ishl, 1) := by decide +kernel
theorem dX8_fromOf_83 : decode cX8_fromOf 83 = .ok (.goto 4, 3) := by decide +kernel
theorem dX8_fromOf_86 : decode cX8_fromOf 86 = .ok (.iconst 0, 1) := by decide +kernel
theorem dX8_fromOf_87 : decode cX8_fromOf 87 = .ok (.ior, 1) := by decide +kernel
theorem dX8_fromOf_88 : decode cX8_fromOf 88 = .ok (.istore_n 2, 1) := by decide +kernel
theorem dX8_fromOf_89 : decode cX8_fromOf 89 = .ok (.iinc 3 1, 3) := by decide +kernel
theorem dX8_fromOf_92 : decode cX8_fromOf 92 = .ok (.goto (-88), 3) := by decide +kernel
theorem dX8_fromOf_95 : decode cX8_fromOf 95 = .ok (.iload_n 2, 1) := by decide +kernel
theorem dX8_fromOf_96 : decode cX8_fromOf 96 = .ok (.ireturn, 1) := by decide +kernel
theorem dX8_from_0 : decode cX8_from 0 = .ok (.iload_n 1, 1) := by decide +kernel
theorem dX8_from_1 : decode cX8_from 1 = .ok (.i2l, 1) := by decide +kernel
theorem dX8_from_2 : decode cX8_from 2 = .ok (.lconst 1, 1) := by decide +kernel
theorem dX8_from_3 : decode cX8_from 3 = .ok (.ldc2_w 213, 3) := by decide +kernel
theorem dX8_from_6 : decode cX8_from 6 = .ok (.invokestatic 80, 3) := by decide +kernel
theorem dX8_from_9 : decode cX8_from 9 = .ok (.ifCond .eq 11, 3) := by decide +kernel
theorem dX8_from_12 : decode cX8_from 12 = .ok (.aload_n 0, 1) := by decide +kernel
theorem dX8_from_13 : decode cX8_from 13 = .ok (.iload_n 1, 1) := by decide +kernel
theorem dX8_from_14 : decode cX8_from 14 = .ok (.invokevirtual 215, 3) := by decide +kernel
theorem dX8_from_17 : decode cX8_from 17 = .ok (.goto 5, 3) := by decide +kernel
theorem dX8_from_20 : decode cX8_from 20 = .ok (.bipush (-2), 2) := by decide +kernel
theorem dX8_from_22 : decode cX8_from 22 = .ok (.ireturn, 1) := by decide +kernel
theorem dX8_next_0 : decode cX8_next 0 = .ok (.iload_n 1, 1) := by decide +kernel
theorem dX8_next_1 : decode cX8_next 1 = .ok (.i2l, 1) := by decide +kernel
theorem dX8_next_2 : decode cX8_next 2 = .ok (.lconst 1, 1) := by decide +kernel
theorem dX8_next_3 : decode cX8_next 3 = .ok (.ldc2_w 213, 3) := by decide +kernel
theorem dX8_next_6 : decode cX8_next 6 = .ok (.invokestatic 80, 3) := by decide +kernel
theorem dX8_next_9 : decode cX8_next 9 = .ok (.ifCond .eq 15, 3) := by decide +kernel
theorem dX8_next_12 : decode cX8_next 12 = .ok (.iload_n 2, 1) := by decide +kernel
theorem dX8_next_13 : decode cX8_next 13 = .ok (.i2l, 1) := by decide +kernel
theorem dX8_next_14 : decode cX8_next 14 = .ok (.lconst 0, 1) := by decide +kernel
theorem dX8_next_15 : decode cX8_next 15 = .ok (.ldc2_w 208, 3) := by decide +kernel
theorem dX8_next_18 : decode cX8_next 18 = .ok (.invokestatic 80, 3) := by decide +kernel
theorem dX8_next_21 : decode cX8_next 21 = .ok (.ifCond .ne 6, 3) := by decide +kernel
theorem dX8_next_24 : decode cX8_next 24 = .ok (.bipush (-2), 2) := by decide +kernel
theorem dX8_next_26 : decode cX8_next 26 = .ok (.ireturn, 1) := by decide +kernel
theorem dX8_next_27 : decode cX8_next 27 = .ok (.aload_n 0, 1) := by decide +kernel
theorem dX8_next_28 : decode cX8_next 28 = .ok (.iload_n 1, 1) := by decide +kernel
theorem dX8_next_29 : decode cX8_next 29 = .ok (.invokevirtual 215, 3) := by decide +kernel
theorem dX8_next_32 : decode cX8_next 32 = .ok (.istore 4, 2) := by decide +kernel
theorem dX8_next_34 : decode cX8_next 34 = .ok (.iload 4, 2) := by decide +kernel
theorem dX8_next_36 : decode cX8_next 36 = .ok (.ifCond .eq 11, 3) := by decide +kernel
theorem dX8_next_39 : decode cX8_next 39 = .ok (.aload_n 0, 1) := by decide +kernel
theorem dX8_next_40 : decode cX8_next 40 = .ok (.getfield 210, 3) := by decide +kernel
theorem dX8_next_43 : decode cX8_next 43 = .ok (.iload_n 1, 1) := by decide +kernel
theorem dX8_next_44 : decode cX8_next 44 = .ok (.if_icmp .lt 6, 3) := by decide +kernel
theorem dX8_next_47 : decode cX8_next 47 = .ok (.bipush (-3), 2) := by decide +kernel
theorem dX8_next_49 : decode cX8_next 49 = .ok (.ireturn, 1) := by decide +kernel
theorem dX8_next_50 : decode cX8_next 50 = .ok (.iconst 0, 1) := by decide +kernel
theorem dX8_next_51 : decode cX8_next 51 = .ok (.istore 5, 2) := by decide +kernel
theorem dX8_next_53 : decode cX8_next 53 = .ok (.iconst 0, 1) := by decide +kernel
theorem dX8_next_54 : decode cX8_next 54 = .ok (.istore 6, 2) := by decide +kernel
theorem dX8_next_56 : decode cX8_next 56 = .ok (.iconst 0, 1) := by decide +kernel
theorem dX8_next_57 : decode cX8_next 57 = .ok (.istore 7, 2) := by decide +kernel
theorem dX8_next_59 : decode cX8_next 59 = .ok (.iload 7, 2) := by decide +kernel
theorem dX8_next_61 : decode cX8_next 61 = .ok (.aload_n 0, 1) := by decide +kernel
theorem dX8_next_62 : decode cX8_next 62 = .ok (.getfield 74, 3) := by decide +kernel
theorem dX8_next_65 : decode cX8_next 65 = .ok (.if_icmp .ge 57, 3) := by decide +kernel
theorem dX8_next_68 : decode cX8_next 68 = .ok (.iload 6, 2) := by decide +kernel
theorem dX8_next_70 : decode cX8_next 70 = .ok (.iload 4, 2) := by decide +kernel
theorem dX8_next_72 : decode cX8_next 72 = .ok (.iload 7, 2) := by decide +kernel
theorem dX8_next_74 : decode cX8_next 74 = .ok (.ishr, 1) := by decide +kernel
theorem dX8_next_75 : decode cX8_next 75 = .ok (.iconst 1, 1) := by decide +kernel
theorem dX8_next_76 : decode cX8_next 76 = .ok (.iand, 1) := by decide +kernel
theorem dX8_next_77 : decode cX8_next 77 = .ok (.iadd, 1) := by decide +kernel
theorem dX8_next_78 : decode cX8_next 78 = .ok (.istore 6, 2) := by decide +kernel
theorem dX8_next_80 : decode cX8_next 80 = .ok (.iload 5, 2) := by decide +kernel
theorem dX8_next_82 : decode cX8_next 82 = .ok (.iload 4, 2) := by decide +kernel
theorem dX8_next_84 : decode cX8_next 84 = .ok (.iload 7, 2) := by decide +kernel
theorem dX8_next_86 : decode cX8_next 86 = .ok (.invokestatic 142, 3) := by decide +kernel
theorem dX8_next_89 : decode cX8_next 89 = .ok (.ifCond .eq 23, 3) := by decide +kernel
theorem dX8_next_92 : decode cX8_next 92 = .ok (.aload_n 0, 1) := by decide +kernel
theorem dX8_next_93 : decode cX8_next 93 = .ok (.getfield 7, 3) := by decide +kernel
theorem dX8_next_96 : decode cX8_next 96 = .ok (.iload 7, 2) := by decide +kernel
theorem dX8_next_98 : decode cX8_next 98 = .ok (.aload_n 0, 1) := by decide +kernel
theorem dX8_next_99 : decode cX8_next 99 = .ok (.getfield 210, 3) := by decide +kernel
theorem dX8_next_102 : decode cX8_next 102 = .ok (.iadd, 1) := by decide +kernel
theorem dX8_next_103 : decode cX8_next 103 = .ok (.iaload, 1) := by decide +kernel
theorem dX8_next_104 : decode cX8_next 104 = .ok (.iload_n 2, 1) := by decide +kernel
theorem dX8_next_105 : decode cX8_next 105 = .ok (.if_icmp .ne 7, 3) := by decide +kernel
theorem dX8_next_108 : decode cX8_next 108 = .ok (.iconst 1, 1) := by decide +kernel
theorem dX8_next_109 : decode cX8_next 109 = .ok (.goto 4, 3) := by decide +kernel
theorem dX8_next_112 : decode cX8_next 112 = .ok (.iconst 0, 1) := by decide +kernel
theorem dX8_next_113 : decode cX8_next 113 = .ok (.iadd, 1) := by decide +kernel
theorem dX8_next_114 : decode cX8_next 114 = .ok (.istore 5, 2) := by decide +kernel
theorem dX8_next_116 : decode cX8_next 116 = .ok (.iinc 7 1, 3) := by decide +kernel
theorem dX8_next_119 : decode cX8_next 119 = .ok (.goto (-60), 3) := by decide +kernel
theorem dX8_next_122 : decode cX8_next 122 = .ok (.iload 5, 2) := by decide +kernel
theorem dX8_next_124 : decode cX8_next 124 = .ok (.iload 6, 2) := by decide +kernel
theorem dX8_next_126 : decode cX8_next 126 = .ok (.invokestatic 191, 3) := by decide +kernel
theorem dX8_next_129 : decode cX8_next 129 = .ok (.istore 7, 2) := by decide +kernel
theorem dX8_next_131 : decode cX8_next 131 = .ok (.iload_n 3, 1) := by decide +kernel
theorem dX8_next_132 : decode cX8_next 132 = .ok (.ifCond .eq 11, 3) := by decide +kernel
theorem dX8_next_135 : decode cX8_next 135 = .ok (.iload 5, 2) := by decide +kernel
theorem dX8_next_137 : decode cX8_next 137 = .ok (.iload 7, 2) := by decide +kernel
theorem dX8_next_139 : decode cX8_next 139 = .ok (.idiv, 1) := by decide +kernel
theorem dX8_next_140 : decode cX8_next 140 = .ok (.goto 8, 3) := by decide +kernel
theorem dX8_next_143 : decode cX8_next 143 = .ok (.iload 6, 2) := by decide +kernel
theorem dX8_next_145 : decode cX8_next 145 = .ok (.iload 7, 2) := by decide +kernel
theorem dX8_next_147 : decode cX8_next 147 = .ok (.idiv, 1) := by decide +kernel
theorem dX8_next_148 : decode cX8_next 148 = .ok (.ireturn, 1) := by decide +kernel
theorem dX8_cut_0 : decode cX8_cut 0 = .ok (.iload_n 1, 1) := by decide +kernel
theorem dX8_cut_1 : decode cX8_cut 1 = .ok (.i2l, 1) := by decide +kernel
theorem dX8_cut_2 : decode cX8_cut 2 = .ok (.lconst 1, 1) := by decide +kernel
theorem dX8_cut_3 : decode cX8_cut 3 = .ok (.ldc2_w 218, 3) := by decide +kernel
theorem dX8_cut_6 : decode cX8_cut 6 = .ok (.invokestatic 80, 3) := by decide +kernel
theorem dX8_cut_9 : decode cX8_cut 9 = .ok (.ifCond .eq 41, 3) := by decide +kernel
theorem dX8_cut_12 : decode cX8_cut 12 = .ok (.iload_n 2, 1) := by decide +kernel
theorem dX8_cut_13 : decode cX8_cut 13 = .ok (.i2l, 1) := by decide +kernel
theorem dX8_cut_14 : decode cX8_cut 14 = .ok (.lconst 1, 1) := by decide +kernel
theorem dX8_cut_15 : decode cX8_cut 15 = .ok (.ldc2_w 213, 3) := by decide +kernel
theorem dX8_cut_18 : decode cX8_cut 18 = .ok (.invokestatic 80, 3) := by decide +kernel
theorem dX8_cut_21 : decode cX8_cut 21 = .ok (.ifCond .eq 29, 3) := by decide +kernel
theorem dX8_cut_24 : decode cX8_cut 24 = .ok (.iload_n 3, 1) := by decide +kernel
theorem dX8_cut_25 : decode cX8_cut 25 = .ok (.i2l, 1) := by decide +kernel
theorem dX8_cut_26 : decode cX8_cut 26 = .ok (.bipush 10, 2) := by decide +kernel
theorem dX8_cut_28 : decode cX8_cut 28 = .ok (.iload_n 2, 1) := by decide +kernel
theorem dX8_cut_29 : decode cX8_cut 29 = .ok (.iconst 1, 1) := by decide +kernel
theorem dX8_cut_30 : decode cX8_cut 30 = .ok (.isub, 1) := by decide +kernel
theorem dX8_cut_31 : decode cX8_cut 31 = .ok (.invokestatic 159, 3) := by decide +kernel
theorem dX8_cut_34 : decode cX8_cut 34 = .ok (.i2l, 1) := by decide +kernel
theorem dX8_cut_35 : decode cX8_cut 35 = .ok (.bipush 10, 2) := by decide +kernel
theorem dX8_cut_37 : decode cX8_cut 37 = .ok (.iload_n 2, 1) := by decide +kernel
theorem dX8_cut_38 : decode cX8_cut 38 = .ok (.invokestatic 159, 3) := by decide +kernel
theorem dX8_cut_41 : decode cX8_cut 41 = .ok (.iconst 1, 1) := by decide +kernel
theorem dX8_cut_42 : decode cX8_cut 42 = .ok (.isub, 1) := by decide +kernel
theorem dX8_cut_43 : decode cX8_cut 43 = .ok (.i2l, 1) := by decide +kernel
theorem dX8_cut_44 : decode cX8_cut 44 = .ok (.invokestatic 80, 3) := by decide +kernel
theorem dX8_cut_47 : decode cX8_cut 47 = .ok (.ifCond .ne 6, 3) := by decide +kernel
theorem dX8_cut_50 : decode cX8_cut 50 = .ok (.bipush (-2), 2) := by decide +kernel
theorem dX8_cut_52 : decode cX8_cut 52 = .ok (.ireturn, 1) := by decide +kernel
theorem dX8_cut_53 : decode cX8_cut 53 = .ok (.iconst 1, 1) := by decide +kernel
theorem dX8_cut_54 : decode cX8_cut 54 = .ok (.istore 4, 2) := by decide +kernel
theorem dX8_cut_56 : decode cX8_cut 56 = .ok (.iconst 0, 1) := by decide +kernel
theorem dX8_cut_57 : decode cX8_cut 57 = .ok (.istore 5, 2) := by decide +kernel
theorem dX8_cut_59 : decode cX8_cut 59 = .ok (.iload 5, 2) := by decide +kernel
theorem dX8_cut_61 : decode cX8_cut 61 = .ok (.iload_n 2, 1) := by decide +kernel
theorem dX8_cut_62 : decode cX8_cut 62 = .ok (.if_icmp .ge 49, 3) := by decide +kernel
theorem dX8_cut_65 : decode cX8_cut 65 = .ok (.iload_n 3, 1) := by decide +kernel
theorem dX8_cut_66 : decode cX8_cut 66 = .ok (.bipush 10, 2) := by decide +kernel
theorem dX8_cut_68 : decode cX8_cut 68 = .ok (.iload 5, 2) := by decide +kernel
theorem dX8_cut_70 : decode cX8_cut 70 = .ok (.invokestatic 159, 3) := by decide +kernel
theorem dX8_cut_73 : decode cX8_cut 73 = .ok (.idiv, 1) := by decide +kernel
theorem dX8_cut_74 : decode cX8_cut 74 = .ok (.bipush 10, 2) := by decide +kernel
theorem dX8_cut_76 : decode cX8_cut 76 = .ok (.irem, 1) := by decide +kernel
theorem dX8_cut_77 : decode cX8_cut 77 = .ok (.istore 6, 2) := by decide +kernel
theorem dX8_cut_79 : decode cX8_cut 79 = .ok (.iload 6, 2) := by decide +kernel
theorem dX8_cut_81 : decode cX8_cut 81 = .ok (.ifCond .ne 6, 3) := by decide +kernel
theorem dX8_cut_84 : decode cX8_cut 84 = .ok (.bipush (-2), 2) := by decide +kernel
theorem dX8_cut_86 : decode cX8_cut 86 = .ok (.ireturn, 1) := by decide +kernel
theorem dX8_cut_87 : decode cX8_cut 87 = .ok (.iload 4, 2) := by decide +kernel
theorem dX8_cut_89 : decode cX8_cut 89 = .ok (.ifCond .eq 13, 3) := by decide +kernel
theorem dX8_cut_92 : decode cX8_cut 92 = .ok (.iload 6, 2) := by decide +kernel
theorem dX8_cut_94 : decode cX8_cut 94 = .ok (.iload_n 1, 1) := by decide +kernel
theorem dX8_cut_95 : decode cX8_cut 95 = .ok (.if_icmp .gt 7, 3) := by decide +kernel
theorem dX8_cut_98 : decode cX8_cut 98 = .ok (.iconst 1, 1) := by decide +kernel
theorem dX8_cut_99 : decode cX8_cut 99 = .ok (.goto 4, 3) := by decide +kernel
theorem dX8_cut_102 : decode cX8_cut 102 = .ok (.iconst 0, 1) := by decide +kernel
theorem dX8_cut_103 : decode cX8_cut 103 = .ok (.istore 4, 2) := by decide +kernel
theorem dX8_cut_105 : decode cX8_cut 105 = .ok (.iinc 5 1, 3) := by decide +kernel
theorem dX8_cut_108 : decode cX8_cut 108 = .ok (.goto (-49), 3) := by decide +kernel
theorem dX8_cut_111 : decode cX8_cut 111 = .ok (.iload 4, 2) := by decide +kernel
theorem dX8_cut_113 : decode cX8_cut 113 = .ok (.ifCond .ne 6, 3) := by decide +kernel
theorem dX8_cut_116 : decode cX8_cut 116 = .ok (.bipush (-9), 2) := by decide +kernel
theorem dX8_cut_118 : decode cX8_cut 118 = .ok (.ireturn, 1) := by decide +kernel
theorem dX8_cut_119 : decode cX8_cut 119 = .ok (.aload_n 0, 1) := by decide +kernel
theorem dX8_cut_120 : decode cX8_cut 120 = .ok (.getfield 64, 3) := by decide +kernel
theorem dX8_cut_123 : decode cX8_cut 123 = .ok (.iconst 0, 1) := by decide +kernel
theorem dX8_cut_124 : decode cX8_cut 124 = .ok (.iconst 0, 1) := by decide +kernel
theorem dX8_cut_125 : decode cX8_cut 125 = .ok (.iastore, 1) := by decide +kernel
theorem dX8_cut_126 : decode cX8_cut 126 = .ok (.iconst 1, 1) := by decide +kernel
theorem dX8_cut_127 : decode cX8_cut 127 = .ok (.istore 5, 2) := by decide +kernel
theorem dX8_cut_129 : decode cX8_cut 129 = .ok (.iload 5, 2) := by decide +kernel
theorem dX8_cut_131 : decode cX8_cut 131 = .ok (.iconst 1, 1) := by decide +kernel
theorem dX8_cut_132 : decode cX8_cut 132 = .ok (.iload_n 2, 1) := by decide +kernel
theorem dX8_cut_133 : decode cX8_cut 133 = .ok (.ishl, 1) := by decide +kernel
theorem dX8_cut_134 : decode cX8_cut 134 = .ok (.if_icmp .ge 110, 3) := by decide +kernel
theorem dX8_cut_137 : decode cX8_cut 137 = .ok (.aload_n 0, 1) := by decide +kernel
theorem dX8_cut_138 : decode cX8_cut 138 = .ok (.getfield 64, 3) := by decide +kernel
theorem dX8_cut_141 : decode cX8_cut 141 = .ok (.iload 5, 2) := by decide +kernel
theorem dX8_cut_143 : decode cX8_cut 143 = .ok (.bipush 99, 2) := by decide +kernel
theorem dX8_cut_145 : decode cX8_cut 145 = .ok (.iastore, 1) := by decide +kernel
theorem dX8_cut_146 : decode cX8_cut 146 = .ok (.iconst 1, 1) := by decide +kernel
theorem dX8_cut_147 : decode cX8_cut 147 = .ok (.istore 6, 2) := by decide +kernel
theorem dX8_cut_149 : decode cX8_cut 149 = .ok (.iload 6, 2) := by decide +kernel
theorem dX8_cut_151 : decode cX8_cut 151 = .ok (.iload 5, 2) := by decide +kernel
theorem dX8_cut_153 : decode cX8_cut 153 = .ok (.if_icmp .gt 85, 3) := by decide +kernel
theorem dX8_cut_156 : decode cX8_cut 156 = .ok (.iload 6, 2) := by decide +kernel
theorem dX8_cut_158 : decode cX8_cut 158 = .ok (.iload 5, 2) := by decide +kernel
theorem dX8_cut_160 : decode cX8_cut 160 = .ok (.iconst (-1), 1) := by decide +kernel
theorem dX8_cut_161 : decode cX8_cut 161 = .ok (.ixor, 1) := by decide +kernel
theorem dX8_cut_162 : decode cX8_cut 162 = .ok (.iand, 1) := by decide +kernel
theorem dX8_cut_163 : decode cX8_cut 163 = .ok (.ifCond .ne 69, 3) := by decide +kernel
theorem dX8_cut_166 : decode cX8_cut 166 = .ok (.iload 6, 2) := by decide +kernel
theorem dX8_cut_168 : decode cX8_cut 168 = .ok (.iload_n 2, 1) := by decide +kernel
theorem dX8_cut_169 : decode cX8_cut 169 = .ok (.iload_n 3, 1) := by decide +kernel
theorem dX8_cut_170 : decode cX8_cut 170 = .ok (.invokestatic 220, 3) := by decide +kernel
theorem dX8_cut_173 : decode cX8_cut 173 = .ok (.iload_n 1, 1) := by decide +kernel
theorem dX8_cut_174 : decode cX8_cut 174 = .ok (.if_icmp .gt 58, 3) := by decide +kernel
theorem dX8_cut_177 : decode cX8_cut 177 = .ok (.aload_n 0, 1) := by decide +kernel
theorem dX8_cut_178 : decode cX8_cut 178 = .ok (.getfield 64, 3) := by decide +kernel
theorem dX8_cut_181 : decode cX8_cut 181 = .ok (.iload 5, 2) := by decide +kernel
theorem dX8_cut_183 : decode cX8_cut 183 = .ok (.aload_n 0, 1) := by decide +kernel
theorem dX8_cut_184 : decode cX8_cut 184 = .ok (.getfield 64, 3) := by decide +kernel
theorem dX8_cut_187 : decode cX8_cut 187 = .ok (.iload 5, 2) := by decide +kernel
theorem dX8_cut_189 : decode cX8_cut 189 = .ok (.iload 6, 2) := by decide +kernel
theorem dX8_cut_191 : decode cX8_cut 191 = .ok (.iconst (-1), 1) := by decide +kernel
theorem dX8_cut_192 : decode cX8_cut 192 = .ok (.ixor, 1) := by decide +kernel
theorem dX8_cut_193 : decode cX8_cut 193 = .ok (.iand, 1) := by decide +kernel
theorem dX8_cut_194 : decode cX8_cut 194 = .ok (.iaload, 1) := by decide +kernel
theorem dX8_cut_195 : decode cX8_cut 195 = .ok (.iconst 1, 1) := by decide +kernel
theorem dX8_cut_196 : decode cX8_cut 196 = .ok (.iadd, 1) := by decide +kernel
theorem dX8_cut_197 : decode cX8_cut 197 = .ok (.aload_n 0, 1) := by decide +kernel
theorem dX8_cut_198 : decode cX8_cut 198 = .ok (.getfield 64, 3) := by decide +kernel
theorem dX8_cut_201 : decode cX8_cut 201 = .ok (.iload 5, 2) := by decide +kernel
theorem dX8_cut_203 : decode cX8_cut 203 = .ok (.iaload, 1) := by decide +kernel
theorem dX8_cut_204 : decode cX8_cut 204 = .ok (.if_icmp .ge 20, 3) := by decide +kernel
theorem dX8_cut_207 : decode cX8_cut 207 = .ok (.aload_n 0, 1) := by decide +kernel
theorem dX8_cut_208 : decode cX8_cut 208 = .ok (.getfield 64, 3) := by decide +kernel
theorem dX8_cut_211 : decode cX8_cut 211 = .ok (.iload 5, 2) := by decide +kernel
theorem dX8_cut_213 : decode cX8_cut 213 = .ok (.iload 6, 2) := by decide +kernel
theorem dX8_cut_215 : decode cX8_cut 215 = .ok (.iconst (-1), 1) := by decide +kernel
theorem dX8_cut_216 : decode cX8_cut 216 = .ok (.ixor, 1) := by decide +kernel
theorem dX8_cut_217 : decode cX8_cut 217 = .ok (.iand, 1) := by decide +kernel
theorem dX8_cut_218 : decode cX8_cut 218 = .ok (.iaload, 1) := by decide +kernel
theorem dX8_cut_219 : decode cX8_cut 219 = .ok (.iconst 1, 1) := by decide +kernel
theorem dX8_cut_220 : decode cX8_cut 220 = .ok (.iadd, 1) := by decide +kernel
theorem dX8_cut_221 : decode cX8_cut 221 = .ok (.goto 10, 3) := by decide +kernel
theorem dX8_cut_224 : decode cX8_cut 224 = .ok (.aload_n 0, 1) := by decide +kernel
theorem dX8_cut_225 : decode cX8_cut 225 = .ok (.getfield 64, 3) := by decide +kernel
theorem dX8_cut_228 : decode cX8_cut 228 = .ok (.iload 5, 2) := by decide +kernel
theorem dX8_cut_230 : decode cX8_cut 230 = .ok (.iaload, 1) := by decide +kernel
theorem dX8_cut_231 : decode cX8_cut 231 = .ok (.iastore, 1) := by decide +kernel
theorem dX8_cut_232 : decode cX8_cut 232 = .ok (.iinc 6 1, 3) := by decide +kernel
theorem dX8_cut_235 : decode cX8_cut 235 = .ok (.goto (-86), 3) := by decide +kernel
theorem dX8_cut_238 : decode cX8_cut 238 = .ok (.iinc 5 1, 3) := by decide +kernel
theorem dX8_cut_241 : decode cX8_cut 241 = .ok (.goto (-112), 3) := by decide +kernel
theorem dX8_cut_244 : decode cX8_cut 244 = .ok (.aload_n 0, 1) := by decide +kernel
theorem dX8_cut_245 : decode cX8_cut 245 = .ok (.getfield 64, 3) := by decide +kernel
theorem dX8_cut_248 : decode cX8_cut 248 = .ok (.iconst 1, 1) := by decide +kernel
theorem dX8_cut_249 : decode cX8_cut 249 = .ok (.iload_n 2, 1) := by decide +kernel
theorem dX8_cut_250 : decode cX8_cut 250 = .ok (.ishl, 1) := by decide +kernel
theorem dX8_cut_251 : decode cX8_cut 251 = .ok (.iconst 1, 1) := by decide +kernel
theorem dX8_cut_252 : decode cX8_cut 252 = .ok (.isub, 1) := by decide +kernel
theorem dX8_cut_253 : decode cX8_cut 253 = .ok (.iaload, 1) := by decide +kernel
theorem dX8_cut_254 : decode cX8_cut 254 = .ok (.ireturn, 1) := by decide +kernel
theorem dX8_sum_0 : decode cX8_sum 0 = .ok (.iconst 0, 1) := by decide +kernel
theorem dX8_sum_1 : decode cX8_sum 1 = .ok (.istore_n 3, 1) := by decide +kernel
theorem dX8_sum_2 : decode cX8_sum 2 = .ok (.iconst 0, 1) := by decide +kernel
theorem dX8_sum_3 : decode cX8_sum 3 = .ok (.istore 4, 2) := by decide +kernel
theorem dX8_sum_5 : decode cX8_sum 5 = .ok (.iload 4, 2) := by decide +kernel
theorem dX8_sum_7 : decode cX8_sum 7 = .ok (.iload_n 1, 1) := by decide +kernel
theorem dX8_sum_8 : decode cX8_sum 8 = .ok (.if_icmp .ge 37, 3) := by decide +kernel
theorem dX8_sum_11 : decode cX8_sum 11 = .ok (.iload_n 3, 1) := by decide +kernel
theorem dX8_sum_12 : decode cX8_sum 12 = .ok (.iload_n 0, 1) := by decide +kernel
theorem dX8_sum_13 : decode cX8_sum 13 = .ok (.iload 4, 2) := by decide +kernel
theorem dX8_sum_15 : decode cX8_sum 15 = .ok (.invokestatic 142, 3) := by decide +kernel
theorem dX8_sum_18 : decode cX8_sum 18 = .ok (.ifCond .eq 18, 3) := by decide +kernel
theorem dX8_sum_21 : decode cX8_sum 21 = .ok (.iload_n 2, 1) := by decide +kernel
theorem dX8_sum_22 : decode cX8_sum 22 = .ok (.bipush 10, 2) := by decide +kernel
theorem dX8_sum_24 : decode cX8_sum 24 = .ok (.iload 4, 2) := by decide +kernel
theorem dX8_sum_26 : decode cX8_sum 26 = .ok (.invokestatic 159, 3) := by decide +kernel
theorem dX8_sum_29 : decode cX8_sum 29 = .ok (.idiv, 1) := by decide +kernel
theorem dX8_sum_30 : decode cX8_sum 30 = .ok (.bipush 10, 2) := by decide +kernel
theorem dX8_sum_32 : decode cX8_sum 32 = .ok (.irem, 1) := by decide +kernel
theorem dX8_sum_33 : decode cX8_sum 33 = .ok (.goto 4, 3) := by decide +kernel
theorem dX8_sum_36 : decode cX8_sum 36 = .ok (.iconst 0, 1) := by decide +kernel
theorem dX8_sum_37 : decode cX8_sum 37 = .ok (.iadd, 1) := by decide +kernel
theorem dX8_sum_38 : decode cX8_sum 38 = .ok (.istore_n 3, 1) := by decide +kernel
theorem dX8_sum_39 : decode cX8_sum 39 = .ok (.iinc 4 1, 3) := by decide +kernel
theorem dX8_sum_42 : decode cX8_sum 42 = .ok (.goto (-37), 3) := by decide +kernel
theorem dX8_sum_45 : decode cX8_sum 45 = .ok (.iload_n 3, 1) := by decide +kernel
theorem dX8_sum_46 : decode cX8_sum 46 = .ok (.ireturn, 1) := by decide +kernel
theorem dX8_draught_0 : decode cX8_draught 0 = .ok (.aload_n 0, 1) := by decide +kernel
theorem dX8_draught_1 : decode cX8_draught 1 = .ok (.iload_n 1, 1) := by decide +kernel
theorem dX8_draught_2 : decode cX8_draught 2 = .ok (.invokevirtual 131, 3) := by decide +kernel
theorem dX8_draught_5 : decode cX8_draught 5 = .ok (.ifCond .ne 5, 3) := by decide +kernel
theorem dX8_draught_8 : decode cX8_draught 8 = .ok (.iconst (-1), 1) := by decide +kernel
theorem dX8_draught_9 : decode cX8_draught 9 = .ok (.ireturn, 1) := by decide +kernel
theorem dX8_draught_10 : decode cX8_draught 10 = .ok (.iload_n 2, 1) := by decide +kernel
theorem dX8_draught_11 : decode cX8_draught 11 = .ok (.i2l, 1) := by decide +kernel
theorem dX8_draught_12 : decode cX8_draught 12 = .ok (.lconst 0, 1) := by decide +kernel
theorem dX8_draught_13 : decode cX8_draught 13 = .ok (.ldc2_w 223, 3) := by decide +kernel
theorem dX8_draught_16 : decode cX8_draught 16 = .ok (.invokestatic 80, 3) := by decide +kernel
theorem dX8_draught_19 : decode cX8_draught 19 = .ok (.ifCond .eq 15, 3) := by decide +kernel
theorem dX8_draught_22 : decode cX8_draught 22 = .ok (.iload_n 3, 1) := by decide +kernel
theorem dX8_draught_23 : decode cX8_draught 23 = .ok (.i2l, 1) := by decide +kernel
theorem dX8_draught_24 : decode cX8_draught 24 = .ok (.lconst 0, 1) := by decide +kernel
theorem dX8_draught_25 : decode cX8_draught 25 = .ok (.ldc2_w 202, 3) := by decide +kernel
theorem dX8_draught_28 : decode cX8_draught 28 = .ok (.invokestatic 80, 3) := by decide +kernel
theorem dX8_draught_31 : decode cX8_draught 31 = .ok (.ifCond .ne 6, 3) := by decide +kernel
theorem dX8_draught_34 : decode cX8_draught 34 = .ok (.bipush (-2), 2) := by decide +kernel
theorem dX8_draught_36 : decode cX8_draught 36 = .ok (.ireturn, 1) := by decide +kernel
theorem dX8_draught_37 : decode cX8_draught 37 = .ok (.aload_n 0, 1) := by decide +kernel
theorem dX8_draught_38 : decode cX8_draught 38 = .ok (.getfield 34, 3) := by decide +kernel
theorem dX8_draught_41 : decode cX8_draught 41 = .ok (.bipush 8, 2) := by decide +kernel
theorem dX8_draught_43 : decode cX8_draught 43 = .ok (.iload_n 1, 1) := by decide +kernel
theorem dX8_draught_44 : decode cX8_draught 44 = .ok (.iadd, 1) := by decide +kernel
theorem dX8_draught_45 : decode cX8_draught 45 = .ok (.iaload, 1) := by decide +kernel
theorem dX8_draught_46 : decode cX8_draught 46 = .ok (.ifCond .eq 6, 3) := by decide +kernel
theorem dX8_draught_49 : decode cX8_draught 49 = .ok (.bipush (-3), 2) := by decide +kernel
theorem dX8_draught_51 : decode cX8_draught 51 = .ok (.ireturn, 1) := by decide +kernel
theorem dX8_draught_52 : decode cX8_draught 52 = .ok (.aload_n 0, 1) := by decide +kernel
theorem dX8_draught_53 : decode cX8_draught 53 = .ok (.getfield 34, 3) := by decide +kernel
theorem dX8_draught_56 : decode cX8_draught 56 = .ok (.iconst 4, 1) := by decide +kernel
theorem dX8_draught_57 : decode cX8_draught 57 = .ok (.iload_n 1, 1) := by decide +kernel
theorem dX8_draught_58 : decode cX8_draught 58 = .ok (.iadd, 1) := by decide +kernel
theorem dX8_draught_59 : decode cX8_draught 59 = .ok (.iaload, 1) := by decide +kernel
theorem dX8_draught_60 : decode cX8_draught 60 = .ok (.istore 5, 2) := by decide +kernel
theorem dX8_draught_62 : decode cX8_draught 62 = .ok (.iconst 0, 1) := by decide +kernel
theorem dX8_draught_63 : decode cX8_draught 63 = .ok (.istore 6, 2) := by decide +kernel
theorem dX8_draught_65 : decode cX8_draught 65 = .ok (.iconst 0, 1) := by decide +kernel
theorem dX8_draught_66 : decode cX8_draught 66 = .ok (.istore 7, 2) := by decide +kernel
theorem dX8_draught_68 : decode cX8_draught 68 = .ok (.iload 7, 2) := by decide +kernel
theorem dX8_draught_70 : decode cX8_draught 70 = .ok (.iload 5, 2) := by decide +kernel
theorem dX8_draught_72 : decode cX8_draught 72 = .ok (.if_icmp .ge 60, 3) := by decide +kernel
theorem dX8_draught_75 : decode cX8_draught 75 = .ok (.iload 6, 2) := by decide +kernel
theorem dX8_draught_77 : decode cX8_draught 77 = .ok (.aload_n 0, 1) := by decide +kernel
theorem dX8_draught_78 : decode cX8_draught 78 = .ok (.getfield 7, 3) := by decide +kernel
theorem dX8_draught_81 : decode cX8_draught 81 = .ok (.aload_n 0, 1) := by decide +kernel
theorem dX8_draught_82 : decode cX8_draught 82 = .ok (.getfield 34, 3) := by decide +kernel
theorem dX8_draught_85 : decode cX8_draught 85 = .ok (.iload_n 1, 1) := by decide +kernel
theorem dX8_draught_86 : decode cX8_draught 86 = .ok (.iaload, 1) := by decide +kernel
theorem dX8_draught_87 : decode cX8_draught 87 = .ok (.iload 7, 2) := by decide +kernel
theorem dX8_draught_89 : decode cX8_draught 89 = .ok (.iadd, 1) := by decide +kernel
theorem dX8_draught_90 : decode cX8_draught 90 = .ok (.iaload, 1) := by decide +kernel
theorem dX8_draught_91 : decode cX8_draught 91 = .ok (.iload_n 3, 1) := by decide +kernel
theorem dX8_draught_92 : decode cX8_draught 92 = .ok (.if_icmp .ne 30, 3) := by decide +kernel
theorem dX8_draught_95 : decode cX8_draught 95 = .ok (.bipush 10, 2) := by decide +kernel
theorem dX8_draught_97 : decode cX8_draught 97 = .ok (.iload_n 2, 1) := by decide +kernel
theorem dX8_draught_98 : decode cX8_draught 98 = .ok (.isub, 1) := by decide +kernel
theorem dX8_draught_99 : decode cX8_draught 99 = .ok (.iload 7, 2) := by decide +kernel
theorem dX8_draught_101 : decode cX8_draught 101 = .ok (.iconst 1, 1) := by decide +kernel
theorem dX8_draught_102 : decode cX8_draught 102 = .ok (.iadd, 1) := by decide +kernel
theorem dX8_draught_103 : decode cX8_draught 103 = .ok (.invokestatic 159, 3) := by decide +kernel
theorem dX8_draught_106 : decode cX8_draught 106 = .ok (.bipush 10, 2) := by decide +kernel
theorem dX8_draught_108 : decode cX8_draught 108 = .ok (.iload 5, 2) := by decide +kernel
theorem dX8_draught_110 : decode cX8_draught 110 = .ok (.iconst 1, 1) := by decide +kernel
theorem dX8_draught_111 : decode cX8_draught 111 = .ok (.isub, 1) := by decide +kernel
theorem dX8_draught_112 : decode cX8_draught 112 = .ok (.iload 7, 2) := by decide +kernel
theorem dX8_draught_114 : decode cX8_draught 114 = .ok (.isub, 1) := by decide +kernel
theorem dX8_draught_115 : decode cX8_draught 115 = .ok (.invokestatic 159, 3) := by decide +kernel
theorem dX8_draught_118 : decode cX8_draught 118 = .ok (.imul, 1) := by decide +kernel
theorem dX8_draught_119 : decode cX8_draught 119 = .ok (.goto 4, 3) := by decide +kernel
theorem dX8_draught_122 : decode cX8_draught 122 = .ok (.iconst 0, 1) := by decide +kernel
theorem dX8_draught_123 : decode cX8_draught 123 = .ok (.iadd, 1) := by decide +kernel
theorem dX8_draught_124 : decode cX8_draught 124 = .ok (.istore 6, 2) := by decide +kernel
theorem dX8_draught_126 : decode cX8_draught 126 = .ok (.iinc 7 1, 3) := by decide +kernel
theorem dX8_draught_129 : decode cX8_draught 129 = .ok (.goto (-61), 3) := by decide +kernel
theorem dX8_draught_132 : decode cX8_draught 132 = .ok (.iload 6, 2) := by decide +kernel
theorem dX8_draught_134 : decode cX8_draught 134 = .ok (.bipush 10, 2) := by decide +kernel
theorem dX8_draught_136 : decode cX8_draught 136 = .ok (.iload 5, 2) := by decide +kernel
theorem dX8_draught_138 : decode cX8_draught 138 = .ok (.invokestatic 159, 3) := by decide +kernel
theorem dX8_draught_141 : decode cX8_draught 141 = .ok (.invokestatic 191, 3) := by decide +kernel
theorem dX8_draught_144 : decode cX8_draught 144 = .ok (.istore 7, 2) := by decide +kernel
theorem dX8_draught_146 : decode cX8_draught 146 = .ok (.iload 4, 2) := by decide +kernel
theorem dX8_draught_148 : decode cX8_draught 148 = .ok (.ifCond .eq 11, 3) := by decide +kernel
theorem dX8_draught_151 : decode cX8_draught 151 = .ok (.iload 6, 2) := by decide +kernel
theorem dX8_draught_153 : decode cX8_draught 153 = .ok (.iload 7, 2) := by decide +kernel
theorem dX8_draught_155 : decode cX8_draught 155 = .ok (.idiv, 1) := by decide +kernel
theorem dX8_draught_156 : decode cX8_draught 156 = .ok (.goto 13, 3) := by decide +kernel
theorem dX8_draught_159 : decode cX8_draught 159 = .ok (.bipush 10, 2) := by decide +kernel
theorem dX8_draught_161 : decode cX8_draught 161 = .ok (.iload 5, 2) := by decide +kernel
theorem dX8_draught_163 : decode cX8_draught 163 = .ok (.invokestatic 159, 3) := by decide +kernel
theorem dX8_draught_166 : decode cX8_draught 166 = .ok (.iload 7, 2) := by decide +kernel
theorem dX8_draught_168 : decode cX8_draught 168 = .ok (.idiv, 1) := by decide +kernel
theorem dX8_draught_169 : decode cX8_draught 169 = .ok (.ireturn, 1) := by decide +kernel
theorem dX8_seed_0 : decode cX8_seed 0 = .ok (.aload_n 0, 1) := by decide +kernel
theorem dX8_seed_1 : decode cX8_seed 1 = .ok (.getfield 225, 3) := by decide +kernel
theorem dX8_seed_4 : decode cX8_seed 4 = .ok (.lstore_n 3, 1) := by decide +kernel
theorem dX8_seed_5 : decode cX8_seed 5 = .ok (.aload_n 0, 1) := by decide +kernel
theorem dX8_seed_6 : decode cX8_seed 6 = .ok (.lload_n 1, 1) := by decide +kernel
theorem dX8_seed_7 : decode cX8_seed 7 = .ok (.putfield 225, 3) := by decide +kernel
theorem dX8_seed_10 : decode cX8_seed 10 = .ok (.lload_n 3, 1) := by decide +kernel
theorem dX8_seed_11 : decode cX8_seed 11 = .ok (.lreturn, 1) := by decide +kernel
theorem dX8_night_0 : decode cX8_night 0 = .ok (.iload_n 1, 1) := by decide +kernel
theorem dX8_night_1 : decode cX8_night 1 = .ok (.i2l, 1) := by decide +kernel
theorem dX8_night_2 : decode cX8_night 2 = .ok (.lconst 1, 1) := by decide +kernel
theorem dX8_night_3 : decode cX8_night 3 = .ok (.ldc2_w 229, 3) := by decide +kernel
theorem dX8_night_6 : decode cX8_night 6 = .ok (.invokestatic 80, 3) := by decide +kernel
theorem dX8_night_9 : decode cX8_night 9 = .ok (.ifCond .ne 6, 3) := by decide +kernel
theorem dX8_night_12 : decode cX8_night 12 = .ok (.bipush (-2), 2) := by decide +kernel
theorem dX8_night_14 : decode cX8_night 14 = .ok (.ireturn, 1) := by decide +kernel
theorem dX8_night_15 : decode cX8_night 15 = .ok (.aload_n 0, 1) := by decide +kernel
theorem dX8_night_16 : decode cX8_night 16 = .ok (.iconst 0, 1) := by decide +kernel
theorem dX8_night_17 : decode cX8_night 17 = .ok (.iconst 1, 1) := by decide +kernel
theorem dX8_night_18 : decode cX8_night 18 = .ok (.invokevirtual 166, 3) := by decide +kernel
theorem dX8_night_21 : decode cX8_night 21 = .ok (.iconst 0, 1) := by decide +kernel
theorem dX8_night_22 : decode cX8_night 22 = .ok (.istore_n 2, 1) := by decide +kernel
theorem dX8_night_23 : decode cX8_night 23 = .ok (.iload_n 2, 1) := by decide +kernel
theorem dX8_night_24 : decode cX8_night 24 = .ok (.iload_n 1, 1) := by decide +kernel
theorem dX8_night_25 : decode cX8_night 25 = .ok (.if_icmp .ge 86, 3) := by decide +kernel
theorem dX8_night_28 : decode cX8_night 28 = .ok (.aload_n 0, 1) := by decide +kernel
theorem dX8_night_29 : decode cX8_night 29 = .ok (.getfield 34, 3) := by decide +kernel
theorem dX8_night_32 : decode cX8_night 32 = .ok (.bipush 35, 2) := by decide +kernel
theorem dX8_night_34 : decode cX8_night 34 = .ok (.iaload, 1) := by decide +kernel
theorem dX8_night_35 : decode cX8_night 35 = .ok (.bipush 20, 2) := by decide +kernel
theorem dX8_night_37 : decode cX8_night 37 = .ok (.if_icmp .ge 74, 3) := by decide +kernel
theorem dX8_night_40 : decode cX8_night 40 = .ok (.aload_n 0, 1) := by decide +kernel
theorem dX8_night_41 : decode cX8_night 41 = .ok (.aload_n 0, 1) := by decide +kernel
theorem dX8_night_42 : decode cX8_night 42 = .ok (.getfield 225, 3) := by decide +kernel
theorem dX8_night_45 : decode cX8_night 45 = .ok (.ldc2_w 231, 3) := by decide +kernel
theorem dX8_night_48 : decode cX8_night 48 = .ok (.lmul, 1) := by decide +kernel
theorem dX8_night_49 : decode cX8_night 49 = .ok (.ldc2_w 233, 3) := by decide +kernel
theorem dX8_night_52 : decode cX8_night 52 = .ok (.ladd, 1) := by decide +kernel
theorem dX8_night_53 : decode cX8_night 53 = .ok (.putfield 225, 3) := by decide +kernel
theorem dX8_night_56 : decode cX8_night 56 = .ok (.aload_n 0, 1) := by decide +kernel
theorem dX8_night_57 : decode cX8_night 57 = .ok (.getfield 225, 3) := by decide +kernel
theorem dX8_night_60 : decode cX8_night 60 = .ok (.bipush 33, 2) := by decide +kernel
theorem dX8_night_62 : decode cX8_night 62 = .ok (.lushr, 1) := by decide +kernel
theorem dX8_night_63 : decode cX8_night 63 = .ok (.ldc2_w 208, 3) := by decide +kernel
theorem dX8_night_66 : decode cX8_night 66 = .ok (.lrem, 1) := by decide +kernel
theorem dX8_night_67 : decode cX8_night 67 = .ok (.l2i, 1) := by decide +kernel
theorem dX8_night_68 : decode cX8_night 68 = .ok (.istore_n 3, 1) := by decide +kernel
theorem dX8_night_69 : decode cX8_night 69 = .ok (.aload_n 0, 1) := by decide +kernel
theorem dX8_night_70 : decode cX8_night 70 = .ok (.iload_n 3, 1) := by decide +kernel
theorem dX8_night_71 : decode cX8_night 71 = .ok (.invokevirtual 131, 3) := by decide +kernel
theorem dX8_night_74 : decode cX8_night 74 = .ok (.ifCond .eq 25, 3) := by decide +kernel
theorem dX8_night_77 : decode cX8_night 77 = .ok (.aload_n 0, 1) := by decide +kernel
theorem dX8_night_78 : decode cX8_night 78 = .ok (.getfield 34, 3) := by decide +kernel
theorem dX8_night_81 : decode cX8_night 81 = .ok (.bipush 26, 2) := by decide +kernel
theorem dX8_night_83 : decode cX8_night 83 = .ok (.iload_n 3, 1) := by decide +kernel
theorem dX8_night_84 : decode cX8_night 84 = .ok (.iadd, 1) := by decide +kernel
theorem dX8_night_85 : decode cX8_night 85 = .ok (.iaload, 1) := by decide +kernel
theorem dX8_night_86 : decode cX8_night 86 = .ok (.ifCond .ne 13, 3) := by decide +kernel
theorem dX8_night_89 : decode cX8_night 89 = .ok (.aload_n 0, 1) := by decide +kernel
theorem dX8_night_90 : decode cX8_night 90 = .ok (.getfield 34, 3) := by decide +kernel
theorem dX8_night_93 : decode cX8_night 93 = .ok (.bipush 26, 2) := by decide +kernel
theorem dX8_night_95 : decode cX8_night 95 = .ok (.iload_n 3, 1) := by decide +kernel
theorem dX8_night_96 : decode cX8_night 96 = .ok (.iadd, 1) := by decide +kernel
theorem dX8_night_97 : decode cX8_night 97 = .ok (.iconst 1, 1) := by decide +kernel
theorem dX8_night_98 : decode cX8_night 98 = .ok (.iastore, 1) := by decide +kernel
theorem dX8_night_99 : decode cX8_night 99 = .ok (.aload_n 0, 1) := by decide +kernel
theorem dX8_night_100 : decode cX8_night 100 = .ok (.iconst 1, 1) := by decide +kernel
theorem dX8_night_101 : decode cX8_night 101 = .ok (.invokevirtual 156, 3) := by decide +kernel
theorem dX8_night_104 : decode cX8_night 104 = .ok (.pop, 1) := by decide +kernel
theorem dX8_night_105 : decode cX8_night 105 = .ok (.iinc 2 1, 3) := by decide +kernel
theorem dX8_night_108 : decode cX8_night 108 = .ok (.goto (-85), 3) := by decide +kernel
theorem dX8_night_111 : decode cX8_night 111 = .ok (.iconst 0, 1) := by decide +kernel
theorem dX8_night_112 : decode cX8_night 112 = .ok (.istore_n 2, 1) := by decide +kernel
theorem dX8_night_113 : decode cX8_night 113 = .ok (.iconst 0, 1) := by decide +kernel
theorem dX8_night_114 : decode cX8_night 114 = .ok (.istore_n 3, 1) := by decide +kernel
theorem dX8_night_115 : decode cX8_night 115 = .ok (.iload_n 3, 1) := by decide +kernel
theorem dX8_night_116 : decode cX8_night 116 = .ok (.aload_n 0, 1) := by decide +kernel
theorem dX8_night_117 : decode cX8_night 117 = .ok (.getfield 125, 3) := by decide +kernel
theorem dX8_night_120 : decode cX8_night 120 = .ok (.if_icmp .ge 21, 3) := by decide +kernel
theorem dX8_night_123 : decode cX8_night 123 = .ok (.iload_n 2, 1) := by decide +kernel
theorem dX8_night_124 : decode cX8_night 124 = .ok (.aload_n 0, 1) := by decide +kernel
theorem dX8_night_125 : decode cX8_night 125 = .ok (.getfield 34, 3) := by decide +kernel
theorem dX8_night_128 : decode cX8_night 128 = .ok (.bipush 30, 2) := by decide +kernel
theorem dX8_night_130 : decode cX8_night 130 = .ok (.iload_n 3, 1) := by decide +kernel
theorem dX8_night_131 : decode cX8_night 131 = .ok (.iadd, 1) := by decide +kernel
theorem dX8_night_132 : decode cX8_night 132 = .ok (.iaload, 1) := by decide +kernel
theorem dX8_night_133 : decode cX8_night 133 = .ok (.iadd, 1) := by decide +kernel
theorem dX8_night_134 : decode cX8_night 134 = .ok (.istore_n 2, 1) := by decide +kernel
theorem dX8_night_135 : decode cX8_night 135 = .ok (.iinc 3 1, 3) := by decide +kernel
theorem dX8_night_138 : decode cX8_night 138 = .ok (.goto (-23), 3) := by decide +kernel
theorem dX8_night_141 : decode cX8_night 141 = .ok (.iload_n 2, 1) := by decide +kernel
theorem dX8_night_142 : decode cX8_night 142 = .ok (.ireturn, 1) := by decide +kernel
theorem dX8_keep_0 : decode cX8_keep 0 = .ok (.iload_n 1, 1) := by decide +kernel
theorem dX8_keep_1 : decode cX8_keep 1 = .ok (.i2l, 1) := by decide +kernel
theorem dX8_keep_2 : decode cX8_keep 2 = .ok (.lconst 0, 1) := by decide +kernel
theorem dX8_keep_3 : decode cX8_keep 3 = .ok (.lconst 1, 1) := by decide +kernel
theorem dX8_keep_4 : decode cX8_keep 4 = .ok (.invokestatic 80, 3) := by decide +kernel
theorem dX8_keep_7 : decode cX8_keep 7 = .ok (.ifCond .ne 5, 3) := by decide +kernel
theorem dX8_keep_10 : decode cX8_keep 10 = .ok (.iconst (-1), 1) := by decide +kernel
theorem dX8_keep_11 : decode cX8_keep 11 = .ok (.ireturn, 1) := by decide +kernel
theorem dX8_keep_12 : decode cX8_keep 12 = .ok (.aload_n 0, 1) := by decide +kernel
theorem dX8_keep_13 : decode cX8_keep 13 = .ok (.getfield 67, 3) := by decide +kernel
theorem dX8_keep_16 : decode cX8_keep 16 = .ok (.iload_n 1, 1) := by decide +kernel
theorem dX8_keep_17 : decode cX8_keep 17 = .ok (.iconst 1, 1) := by decide +kernel
theorem dX8_keep_18 : decode cX8_keep 18 = .ok (.bastore, 1) := by decide +kernel
theorem dX8_keep_19 : decode cX8_keep 19 = .ok (.iconst 0, 1) := by decide +kernel
theorem dX8_keep_20 : decode cX8_keep 20 = .ok (.istore_n 2, 1) := by decide +kernel
theorem dX8_keep_21 : decode cX8_keep 21 = .ok (.iload_n 2, 1) := by decide +kernel
theorem dX8_keep_22 : decode cX8_keep 22 = .ok (.bipush 18, 2) := by decide +kernel
theorem dX8_keep_24 : decode cX8_keep 24 = .ok (.if_icmp .ge 26, 3) := by decide +kernel
theorem dX8_keep_27 : decode cX8_keep 27 = .ok (.aload_n 0, 1) := by decide +kernel
theorem dX8_keep_28 : decode cX8_keep 28 = .ok (.getfield 71, 3) := by decide +kernel
theorem dX8_keep_31 : decode cX8_keep 31 = .ok (.bipush 18, 2) := by decide +kernel
theorem dX8_keep_33 : decode cX8_keep 33 = .ok (.iload_n 1, 1) := by decide +kernel
theorem dX8_keep_34 : decode cX8_keep 34 = .ok (.imul, 1) := by decide +kernel
theorem dX8_keep_35 : decode cX8_keep 35 = .ok (.iload_n 2, 1) := by decide +kernel
theorem dX8_keep_36 : decode cX8_keep 36 = .ok (.iadd, 1) := by decide +kernel
theorem dX8_keep_37 : decode cX8_keep 37 = .ok (.aload_n 0, 1) := by decide +kernel
theorem dX8_keep_38 : decode cX8_keep 38 = .ok (.getfield 34, 3) := by decide +kernel
theorem dX8_keep_41 : decode cX8_keep 41 = .ok (.iload_n 2, 1) := by decide +kernel
theorem dX8_keep_42 : decode cX8_keep 42 = .ok (.iaload, 1) := by decide +kernel
theorem dX8_keep_43 : decode cX8_keep 43 = .ok (.iastore, 1) := by decide +kernel
theorem dX8_keep_44 : decode cX8_keep 44 = .ok (.iinc 2 1, 3) := by decide +kernel
theorem dX8_keep_47 : decode cX8_keep 47 = .ok (.goto (-26), 3) := by decide +kernel
theorem dX8_keep_50 : decode cX8_keep 50 = .ok (.aload_n 0, 1) := by decide +kernel
theorem dX8_keep_51 : decode cX8_keep 51 = .ok (.getfield 34, 3) := by decide +kernel
theorem dX8_keep_54 : decode cX8_keep 54 = .ok (.bipush 17, 2) := by decide +kernel
theorem dX8_keep_56 : decode cX8_keep 56 = .ok (.iaload, 1) := by decide +kernel
theorem dX8_keep_57 : decode cX8_keep 57 = .ok (.ireturn, 1) := by decide +kernel
theorem dX8_again_0 : decode cX8_again 0 = .ok (.iload_n 1, 1) := by decide +kernel
theorem dX8_again_1 : decode cX8_again 1 = .ok (.i2l, 1) := by decide +kernel
theorem dX8_again_2 : decode cX8_again 2 = .ok (.lconst 0, 1) := by decide +kernel
theorem dX8_again_3 : decode cX8_again 3 = .ok (.lconst 1, 1) := by decide +kernel
theorem dX8_again_4 : decode cX8_again 4 = .ok (.invokestatic 80, 3) := by decide +kernel
theorem dX8_again_7 : decode cX8_again 7 = .ok (.ifCond .ne 5, 3) := by decide +kernel
theorem dX8_again_10 : decode cX8_again 10 = .ok (.iconst (-1), 1) := by decide +kernel
theorem dX8_again_11 : decode cX8_again 11 = .ok (.ireturn, 1) := by decide +kernel
theorem dX8_again_12 : decode cX8_again 12 = .ok (.aload_n 0, 1) := by decide +kernel
theorem dX8_again_13 : decode cX8_again 13 = .ok (.getfield 67, 3) := by decide +kernel
theorem dX8_again_16 : decode cX8_again 16 = .ok (.iload_n 1, 1) := by decide +kernel
theorem dX8_again_17 : decode cX8_again 17 = .ok (.baload, 1) := by decide +kernel
theorem dX8_again_18 : decode cX8_again 18 = .ok (.ifCond .ne 6, 3) := by decide +kernel
theorem dX8_again_21 : decode cX8_again 21 = .ok (.bipush (-3), 2) := by decide +kernel
theorem dX8_again_23 : decode cX8_again 23 = .ok (.ireturn, 1) := by decide +kernel
theorem dX8_again_24 : decode cX8_again 24 = .ok (.iconst 0, 1) := by decide +kernel
theorem dX8_again_25 : decode cX8_again 25 = .ok (.istore_n 2, 1) := by decide +kernel
theorem dX8_again_26 : decode cX8_again 26 = .ok (.iload_n 2, 1) := by decide +kernel
theorem dX8_again_27 : decode cX8_again 27 = .ok (.bipush 18, 2) := by decide +kernel
theorem dX8_again_29 : decode cX8_again 29 = .ok (.if_icmp .ge 26, 3) := by decide +kernel
theorem dX8_again_32 : decode cX8_again 32 = .ok (.aload_n 0, 1) := by decide +kernel
theorem dX8_again_33 : decode cX8_again 33 = .ok (.getfield 34, 3) := by decide +kernel
theorem dX8_again_36 : decode cX8_again 36 = .ok (.iload_n 2, 1) := by decide +kernel
theorem dX8_again_37 : decode cX8_again 37 = .ok (.aload_n 0, 1) := by decide +kernel
theorem dX8_again_38 : decode cX8_again 38 = .ok (.getfield 71, 3) := by decide +kernel
theorem dX8_again_41 : decode cX8_again 41 = .ok (.bipush 18, 2) := by decide +kernel
theorem dX8_again_43 : decode cX8_again 43 = .ok (.iload_n 1, 1) := by decide +kernel
theorem dX8_again_44 : decode cX8_again 44 = .ok (.imul, 1) := by decide +kernel
theorem dX8_again_45 : decode cX8_again 45 = .ok (.iload_n 2, 1) := by decide +kernel
theorem dX8_again_46 : decode cX8_again 46 = .ok (.iadd, 1) := by decide +kernel
theorem dX8_again_47 : decode cX8_again 47 = .ok (.iaload, 1) := by decide +kernel
theorem dX8_again_48 : decode cX8_again 48 = .ok (.iastore, 1) := by decide +kernel
theorem dX8_again_49 : decode cX8_again 49 = .ok (.iinc 2 1, 3) := by decide +kernel
theorem dX8_again_52 : decode cX8_again 52 = .ok (.goto (-26), 3) := by decide +kernel
theorem dX8_again_55 : decode cX8_again 55 = .ok (.aload_n 0, 1) := by decide +kernel
theorem dX8_again_56 : decode cX8_again 56 = .ok (.iconst 0, 1) := by decide +kernel
theorem dX8_again_57 : decode cX8_again 57 = .ok (.putfield 128, 3) := by decide +kernel
theorem dX8_again_60 : decode cX8_again 60 = .ok (.aload_n 0, 1) := by decide +kernel
theorem dX8_again_61 : decode cX8_again 61 = .ok (.getfield 34, 3) := by decide +kernel
theorem dX8_again_64 : decode cX8_again 64 = .ok (.bipush 17, 2) := by decide +kernel
theorem dX8_again_66 : decode cX8_again 66 = .ok (.iaload, 1) := by decide +kernel
theorem dX8_again_67 : decode cX8_again 67 = .ok (.ireturn, 1) := by decide +kernel
theorem dX8_count_0 : decode cX8_count 0 = .ok (.iconst 0, 1) := by decide +kernel
theorem dX8_count_1 : decode cX8_count 1 = .ok (.istore_n 2, 1) := by decide +kernel
theorem dX8_count_2 : decode cX8_count 2 = .ok (.iconst 0, 1) := by decide +kernel
theorem dX8_count_3 : decode cX8_count 3 = .ok (.istore_n 3, 1) := by decide +kernel
theorem dX8_count_4 : decode cX8_count 4 = .ok (.iload_n 3, 1) := by decide +kernel
theorem dX8_count_5 : decode cX8_count 5 = .ok (.aload_n 0, 1) := by decide +kernel
theorem dX8_count_6 : decode cX8_count 6 = .ok (.getfield 122, 3) := by decide +kernel
theorem dX8_count_9 : decode cX8_count 9 = .ok (.if_icmp .ge 32, 3) := by decide +kernel
theorem dX8_count_12 : decode cX8_count 12 = .ok (.iload_n 2, 1) := by decide +kernel
theorem dX8_count_13 : decode cX8_count 13 = .ok (.aload_n 0, 1) := by decide +kernel
theorem dX8_count_14 : decode cX8_count 14 = .ok (.getfield 34, 3) := by decide +kernel
theorem dX8_count_17 : decode cX8_count 17 = .ok (.bipush 8, 2) := by decide +kernel
theorem dX8_count_19 : decode cX8_count 19 = .ok (.iload_n 3, 1) := by decide +kernel
theorem dX8_count_20 : decode cX8_count 20 = .ok (.iadd, 1) := by decide +kernel
theorem dX8_count_21 : decode cX8_count 21 = .ok (.iaload, 1) := by decide +kernel
theorem dX8_count_22 : decode cX8_count 22 = .ok (.iconst 1, 1) := by decide +kernel
theorem dX8_count_23 : decode cX8_count 23 = .ok (.if_icmp .ne 9, 3) := by decide +kernel
theorem dX8_count_26 : decode cX8_count 26 = .ok (.iconst 1, 1) := by decide +kernel
theorem dX8_count_27 : decode cX8_count 27 = .ok (.iload_n 3, 1) := by decide +kernel
theorem dX8_count_28 : decode cX8_count 28 = .ok (.ishl, 1) := by decide +kernel
theorem dX8_count_29 : decode cX8_count 29 = .ok (.goto 4, 3) := by decide +kernel
theorem dX8_count_32 : decode cX8_count 32 = .ok (.iconst 0, 1) := by decide +kernel
theorem dX8_count_33 : decode cX8_count 33 = .ok (.ior, 1) := by decide +kernel
theorem dX8_count_34 : decode cX8_count 34 = .ok (.istore_n 2, 1) := by decide +kernel
theorem dX8_count_35 : decode cX8_count 35 = .ok (.iinc 3 1, 3) := by decide +kernel
theorem dX8_count_38 : decode cX8_count 38 = .ok (.goto (-34), 3) := by decide +kernel
theorem dX8_count_41 : decode cX8_count 41 = .ok (.iconst 0, 1) := by decide +kernel
theorem dX8_count_42 : decode cX8_count 42 = .ok (.istore_n 3, 1) := by decide +kernel
theorem dX8_count_43 : decode cX8_count 43 = .ok (.iconst 0, 1) := by decide +kernel
theorem dX8_count_44 : decode cX8_count 44 = .ok (.istore 4, 2) := by decide +kernel
theorem dX8_count_46 : decode cX8_count 46 = .ok (.iload 4, 2) := by decide +kernel
theorem dX8_count_48 : decode cX8_count 48 = .ok (.aload_n 0, 1) := by decide +kernel
theorem dX8_count_49 : decode cX8_count 49 = .ok (.getfield 125, 3) := by decide +kernel
theorem dX8_count_52 : decode cX8_count 52 = .ok (.if_icmp .ge 30, 3) := by decide +kernel
theorem dX8_count_55 : decode cX8_count 55 = .ok (.iload_n 3, 1) := by decide +kernel
theorem dX8_count_56 : decode cX8_count 56 = .ok (.aload_n 0, 1) := by decide +kernel
theorem dX8_count_57 : decode cX8_count 57 = .ok (.iconst 0, 1) := by decide +kernel
theorem dX8_count_58 : decode cX8_count 58 = .ok (.iload 4, 2) := by decide +kernel
theorem dX8_count_60 : decode cX8_count 60 = .ok (.invokevirtual 138, 3) := by decide +kernel
theorem dX8_count_63 : decode cX8_count 63 = .ok (.ifCond .eq 10, 3) := by decide +kernel
theorem dX8_count_66 : decode cX8_count 66 = .ok (.iconst 1, 1) := by decide +kernel
theorem dX8_count_67 : decode cX8_count 67 = .ok (.iload 4, 2) := by decide +kernel
theorem dX8_count_69 : decode cX8_count 69 = .ok (.ishl, 1) := by decide +kernel
theorem dX8_count_70 : decode cX8_count 70 = .ok (.goto 4, 3) := by decide +kernel
theorem dX8_count_73 : decode cX8_count 73 = .ok (.iconst 0, 1) := by decide +kernel
theorem dX8_count_74 : decode cX8_count 74 = .ok (.ior, 1) := by decide +kernel
theorem dX8_count_75 : decode cX8_count 75 = .ok (.istore_n 3, 1) := by decide +kernel
theorem dX8_count_76 : decode cX8_count 76 = .ok (.iinc 4 1, 3) := by decide +kernel
theorem dX8_count_79 : decode cX8_count 79 = .ok (.goto (-33), 3) := by decide +kernel
theorem dX8_count_82 : decode cX8_count 82 = .ok (.iload_n 1, 1) := by decide +kernel
theorem dX8_count_83 : decode cX8_count 83 = .ok (.tableswitch 103 0 9 #[53, 58, 63, 68, 73, 81, 83, 85, 93, 98], 53) := by decide +kernel
theorem dX8_count_136 : decode cX8_count 136 = .ok (.aload_n 0, 1) := by decide +kernel
theorem dX8_count_137 : decode cX8_count 137 = .ok (.getfield 84, 3) := by decide +kernel
theorem dX8_count_140 : decode cX8_count 140 = .ok (.ireturn, 1) := by decide +kernel
theorem dX8_count_141 : decode cX8_count 141 = .ok (.aload_n 0, 1) := by decide +kernel
theorem dX8_count_142 : decode cX8_count 142 = .ok (.getfield 74, 3) := by decide +kernel
theorem dX8_count_145 : decode cX8_count 145 = .ok (.ireturn, 1) := by decide +kernel
theorem dX8_count_146 : decode cX8_count 146 = .ok (.aload_n 0, 1) := by decide +kernel
theorem dX8_count_147 : decode cX8_count 147 = .ok (.getfield 122, 3) := by decide +kernel
theorem dX8_count_150 : decode cX8_count 150 = .ok (.ireturn, 1) := by decide +kernel
theorem dX8_count_151 : decode cX8_count 151 = .ok (.aload_n 0, 1) := by decide +kernel
theorem dX8_count_152 : decode cX8_count 152 = .ok (.getfield 125, 3) := by decide +kernel
theorem dX8_count_155 : decode cX8_count 155 = .ok (.ireturn, 1) := by decide +kernel
theorem dX8_count_156 : decode cX8_count 156 = .ok (.aload_n 0, 1) := by decide +kernel
theorem dX8_count_157 : decode cX8_count 157 = .ok (.getfield 34, 3) := by decide +kernel
theorem dX8_count_160 : decode cX8_count 160 = .ok (.bipush 17, 2) := by decide +kernel
theorem dX8_count_162 : decode cX8_count 162 = .ok (.iaload, 1) := by decide +kernel
theorem dX8_count_163 : decode cX8_count 163 = .ok (.ireturn, 1) := by decide +kernel
theorem dX8_count_164 : decode cX8_count 164 = .ok (.iload_n 2, 1) := by decide +kernel
theorem dX8_count_165 : decode cX8_count 165 = .ok (.ireturn, 1) := by decide +kernel
theorem dX8_count_166 : decode cX8_count 166 = .ok (.iload_n 3, 1) := by decide +kernel
theorem dX8_count_167 : decode cX8_count 167 = .ok (.ireturn, 1) := by decide +kernel
theorem dX8_count_168 : decode cX8_count 168 = .ok (.aload_n 0, 1) := by decide +kernel
theorem dX8_count_169 : decode cX8_count 169 = .ok (.getfield 34, 3) := by decide +kernel
theorem dX8_count_172 : decode cX8_count 172 = .ok (.bipush 16, 2) := by decide +kernel
theorem dX8_count_174 : decode cX8_count 174 = .ok (.iaload, 1) := by decide +kernel
theorem dX8_count_175 : decode cX8_count 175 = .ok (.ireturn, 1) := by decide +kernel
theorem dX8_count_176 : decode cX8_count 176 = .ok (.aload_n 0, 1) := by decide +kernel
theorem dX8_count_177 : decode cX8_count 177 = .ok (.getfield 128, 3) := by decide +kernel
theorem dX8_count_180 : decode cX8_count 180 = .ok (.ireturn, 1) := by decide +kernel
theorem dX8_count_181 : decode cX8_count 181 = .ok (.aload_n 0, 1) := by decide +kernel
theorem dX8_count_182 : decode cX8_count 182 = .ok (.getfield 210, 3) := by decide +kernel
theorem dX8_count_185 : decode cX8_count 185 = .ok (.ireturn, 1) := by decide +kernel
theorem dX8_count_186 : decode cX8_count 186 = .ok (.bipush (-2), 2) := by decide +kernel
theorem dX8_count_188 : decode cX8_count 188 = .ok (.ireturn, 1) := by decide +kernel
