theorem dX8_init_0 : decode cX8_init 0 = .ok (.aload_n 0, 1) := by decide +kernel
theorem dX8_init_1 : decode cX8_init 1 = .ok (.invokespecial 1, 3) := by decide +kernel
theorem dX8_init_4 : decode cX8_init 4 = .ok (.aload_n 0, 1) := by decide +kernel
theorem dX8_init_5 : decode cX8_init 5 = .ok (.bipush 78, 2) := by decide +kernel
theorem dX8_init_7 : decode cX8_init 7 = .ok (.newarray .int, 2) := by decide +kernel
theorem dX8_init_9 : decode cX8_init 9 = .ok (.putfield 7, 3) := by decide +kernel
theorem dX8_init_12 : decode cX8_init 12 = .ok (.aload_n 0, 1) := by decide +kernel
theorem dX8_init_13 : decode cX8_init 13 = .ok (.bipush 26, 2) := by decide +kernel
theorem dX8_init_15 : decode cX8_init 15 = .ok (.newarray .int, 2) := by decide +kernel
theorem dX8_init_17 : decode cX8_init 17 = .ok (.putfield 13, 3) := by decide +kernel
theorem dX8_init_20 : decode cX8_init 20 = .ok (.aload_n 0, 1) := by decide +kernel
theorem dX8_init_21 : decode cX8_init 21 = .ok (.iconst 2, 1) := by decide +kernel
theorem dX8_init_22 : decode cX8_init 22 = .ok (.newarray .boolean, 2) := by decide +kernel
theorem dX8_init_24 : decode cX8_init 24 = .ok (.putfield 16, 3) := by decide +kernel
theorem dX8_init_27 : decode cX8_init 27 = .ok (.aload_n 0, 1) := by decide +kernel
theorem dX8_init_28 : decode cX8_init 28 = .ok (.bipush 26, 2) := by decide +kernel
theorem dX8_init_30 : decode cX8_init 30 = .ok (.newarray .int, 2) := by decide +kernel
theorem dX8_init_32 : decode cX8_init 32 = .ok (.putfield 20, 3) := by decide +kernel
theorem dX8_init_35 : decode cX8_init 35 = .ok (.aload_n 0, 1) := by decide +kernel
theorem dX8_init_36 : decode cX8_init 36 = .ok (.sipush 160, 3) := by decide +kernel
theorem dX8_init_39 : decode cX8_init 39 = .ok (.newarray .int, 2) := by decide +kernel
theorem dX8_init_41 : decode cX8_init 41 = .ok (.putfield 23, 3) := by decide +kernel
theorem dX8_init_44 : decode cX8_init 44 = .ok (.aload_n 0, 1) := by decide +kernel
theorem dX8_init_45 : decode cX8_init 45 = .ok (.iconst 5, 1) := by decide +kernel
theorem dX8_init_46 : decode cX8_init 46 = .ok (.newarray .long, 2) := by decide +kernel
theorem dX8_init_48 : decode cX8_init 48 = .ok (.putfield 26, 3) := by decide +kernel
theorem dX8_init_51 : decode cX8_init 51 = .ok (.aload_n 0, 1) := by decide +kernel
theorem dX8_init_52 : decode cX8_init 52 = .ok (.iconst 5, 1) := by decide +kernel
theorem dX8_init_53 : decode cX8_init 53 = .ok (.newarray .int, 2) := by decide +kernel
theorem dX8_init_55 : decode cX8_init 55 = .ok (.putfield 30, 3) := by decide +kernel
theorem dX8_init_58 : decode cX8_init 58 = .ok (.aload_n 0, 1) := by decide +kernel
theorem dX8_init_59 : decode cX8_init 59 = .ok (.iconst 5, 1) := by decide +kernel
theorem dX8_init_60 : decode cX8_init 60 = .ok (.newarray .boolean, 2) := by decide +kernel
theorem dX8_init_62 : decode cX8_init 62 = .ok (.putfield 33, 3) := by decide +kernel
theorem dX8_init_65 : decode cX8_init 65 = .ok (.aload_n 0, 1) := by decide +kernel
theorem dX8_init_66 : decode cX8_init 66 = .ok (.bipush 64, 2) := by decide +kernel
theorem dX8_init_68 : decode cX8_init 68 = .ok (.newarray .int, 2) := by decide +kernel
theorem dX8_init_70 : decode cX8_init 70 = .ok (.putfield 36, 3) := by decide +kernel
theorem dX8_init_73 : decode cX8_init 73 = .ok (.aload_n 0, 1) := by decide +kernel
theorem dX8_init_74 : decode cX8_init 74 = .ok (.iconst 4, 1) := by decide +kernel
theorem dX8_init_75 : decode cX8_init 75 = .ok (.newarray .int, 2) := by decide +kernel
theorem dX8_init_77 : decode cX8_init 77 = .ok (.putfield 39, 3) := by decide +kernel
theorem dX8_init_80 : decode cX8_init 80 = .ok (.aload_n 0, 1) := by decide +kernel
theorem dX8_init_81 : decode cX8_init 81 = .ok (.iconst 5, 1) := by decide +kernel
theorem dX8_init_82 : decode cX8_init 82 = .ok (.newarray .int, 2) := by decide +kernel
theorem dX8_init_84 : decode cX8_init 84 = .ok (.putfield 42, 3) := by decide +kernel
theorem dX8_init_87 : decode cX8_init 87 = .ok (.aload_n 0, 1) := by decide +kernel
theorem dX8_init_88 : decode cX8_init 88 = .ok (.sipush 1005, 3) := by decide +kernel
theorem dX8_init_91 : decode cX8_init 91 = .ok (.newarray .int, 2) := by decide +kernel
theorem dX8_init_93 : decode cX8_init 93 = .ok (.putfield 45, 3) := by decide +kernel
theorem dX8_init_96 : decode cX8_init 96 = .ok (.aload_n 0, 1) := by decide +kernel
theorem dX8_init_97 : decode cX8_init 97 = .ok (.iconst 4, 1) := by decide +kernel
theorem dX8_init_98 : decode cX8_init 98 = .ok (.newarray .int, 2) := by decide +kernel
theorem dX8_init_100 : decode cX8_init 100 = .ok (.putfield 48, 3) := by decide +kernel
theorem dX8_init_103 : decode cX8_init 103 = .ok (.aload_n 0, 1) := by decide +kernel
theorem dX8_init_104 : decode cX8_init 104 = .ok (.iconst 4, 1) := by decide +kernel
theorem dX8_init_105 : decode cX8_init 105 = .ok (.newarray .int, 2) := by decide +kernel
theorem dX8_init_107 : decode cX8_init 107 = .ok (.putfield 51, 3) := by decide +kernel
theorem dX8_init_110 : decode cX8_init 110 = .ok (.aload_n 0, 1) := by decide +kernel
theorem dX8_init_111 : decode cX8_init 111 = .ok (.sipush 160, 3) := by decide +kernel
theorem dX8_init_114 : decode cX8_init 114 = .ok (.newarray .int, 2) := by decide +kernel
theorem dX8_init_116 : decode cX8_init 116 = .ok (.putfield 54, 3) := by decide +kernel
theorem dX8_init_119 : decode cX8_init 119 = .ok (.aload_n 0, 1) := by decide +kernel
theorem dX8_init_120 : decode cX8_init 120 = .ok (.bipush 26, 2) := by decide +kernel
theorem dX8_init_122 : decode cX8_init 122 = .ok (.newarray .int, 2) := by decide +kernel
theorem dX8_init_124 : decode cX8_init 124 = .ok (.putfield 57, 3) := by decide +kernel
theorem dX8_init_127 : decode cX8_init 127 = .ok (.iconst 0, 1) := by decide +kernel
theorem dX8_init_128 : decode cX8_init 128 = .ok (.istore_n 1, 1) := by decide +kernel
theorem dX8_init_129 : decode cX8_init 129 = .ok (.iload_n 1, 1) := by decide +kernel
theorem dX8_init_130 : decode cX8_init 130 = .ok (.iconst 4, 1) := by decide +kernel
theorem dX8_init_131 : decode cX8_init 131 = .ok (.if_icmp .ge 17, 3) := by decide +kernel
theorem dX8_init_134 : decode cX8_init 134 = .ok (.aload_n 0, 1) := by decide +kernel
theorem dX8_init_135 : decode cX8_init 135 = .ok (.getfield 48, 3) := by decide +kernel
theorem dX8_init_138 : decode cX8_init 138 = .ok (.iload_n 1, 1) := by decide +kernel
theorem dX8_init_139 : decode cX8_init 139 = .ok (.bipush (-4), 2) := by decide +kernel
theorem dX8_init_141 : decode cX8_init 141 = .ok (.iastore, 1) := by decide +kernel
theorem dX8_init_142 : decode cX8_init 142 = .ok (.iinc 1 1, 3) := by decide +kernel
theorem dX8_init_145 : decode cX8_init 145 = .ok (.goto (-16), 3) := by decide +kernel
theorem dX8_init_148 : decode cX8_init 148 = .ok (.aload_n 0, 1) := by decide +kernel
theorem dX8_init_149 : decode cX8_init 149 = .ok (.invokevirtual 60, 3) := by decide +kernel
theorem dX8_init_152 : decode cX8_init 152 = .ok (.aload_n 0, 1) := by decide +kernel
theorem dX8_init_153 : decode cX8_init 153 = .ok (.invokevirtual 63, 3) := by decide +kernel
theorem dX8_init_156 : decode cX8_init 156 = .ok (.return_, 1) := by decide +kernel
theorem dX8_in_0 : decode cX8_in 0 = .ok (.lload_n 0, 1) := by decide +kernel
theorem dX8_in_1 : decode cX8_in 1 = .ok (.lload_n 2, 1) := by decide +kernel
theorem dX8_in_2 : decode cX8_in 2 = .ok (.lcmp, 1) := by decide +kernel
theorem dX8_in_3 : decode cX8_in 3 = .ok (.ifCond .lt 14, 3) := by decide +kernel
theorem dX8_in_6 : decode cX8_in 6 = .ok (.lload_n 0, 1) := by decide +kernel
theorem dX8_in_7 : decode cX8_in 7 = .ok (.lload 4, 2) := by decide +kernel
theorem dX8_in_9 : decode cX8_in 9 = .ok (.lcmp, 1) := by decide +kernel
theorem dX8_in_10 : decode cX8_in 10 = .ok (.ifCond .gt 7, 3) := by decide +kernel
theorem dX8_in_13 : decode cX8_in 13 = .ok (.iconst 1, 1) := by decide +kernel
theorem dX8_in_14 : decode cX8_in 14 = .ok (.goto 4, 3) := by decide +kernel
theorem dX8_in_17 : decode cX8_in 17 = .ok (.iconst 0, 1) := by decide +kernel
theorem dX8_in_18 : decode cX8_in 18 = .ok (.ireturn, 1) := by decide +kernel
theorem dX8_flag_0 : decode cX8_flag 0 = .ok (.iload_n 0, 1) := by decide +kernel
theorem dX8_flag_1 : decode cX8_flag 1 = .ok (.ifCond .eq 7, 3) := by decide +kernel
theorem dX8_flag_4 : decode cX8_flag 4 = .ok (.iconst 1, 1) := by decide +kernel
theorem dX8_flag_5 : decode cX8_flag 5 = .ok (.goto 4, 3) := by decide +kernel
theorem dX8_flag_8 : decode cX8_flag 8 = .ok (.iconst 0, 1) := by decide +kernel
theorem dX8_flag_9 : decode cX8_flag 9 = .ok (.ireturn, 1) := by decide +kernel
theorem dX8_firstDraft_0 : decode cX8_firstDraft 0 = .ok (.iconst 0, 1) := by decide +kernel
theorem dX8_firstDraft_1 : decode cX8_firstDraft 1 = .ok (.istore_n 1, 1) := by decide +kernel
theorem dX8_firstDraft_2 : decode cX8_firstDraft 2 = .ok (.iload_n 1, 1) := by decide +kernel
theorem dX8_firstDraft_3 : decode cX8_firstDraft 3 = .ok (.bipush 26, 2) := by decide +kernel
theorem dX8_firstDraft_5 : decode cX8_firstDraft 5 = .ok (.if_icmp .ge 16, 3) := by decide +kernel
theorem dX8_firstDraft_8 : decode cX8_firstDraft 8 = .ok (.aload_n 0, 1) := by decide +kernel
theorem dX8_firstDraft_9 : decode cX8_firstDraft 9 = .ok (.getfield 20, 3) := by decide +kernel
theorem dX8_firstDraft_12 : decode cX8_firstDraft 12 = .ok (.iload_n 1, 1) := by decide +kernel
theorem dX8_firstDraft_13 : decode cX8_firstDraft 13 = .ok (.iconst 0, 1) := by decide +kernel
theorem dX8_firstDraft_14 : decode cX8_firstDraft 14 = .ok (.iastore, 1) := by decide +kernel
theorem dX8_firstDraft_15 : decode cX8_firstDraft 15 = .ok (.iinc 1 1, 3) := by decide +kernel
theorem dX8_firstDraft_18 : decode cX8_firstDraft 18 = .ok (.goto (-16), 3) := by decide +kernel
theorem dX8_firstDraft_21 : decode cX8_firstDraft 21 = .ok (.aload_n 0, 1) := by decide +kernel
theorem dX8_firstDraft_22 : decode cX8_firstDraft 22 = .ok (.getfield 20, 3) := by decide +kernel
theorem dX8_firstDraft_25 : decode cX8_firstDraft 25 = .ok (.iconst 0, 1) := by decide +kernel
theorem dX8_firstDraft_26 : decode cX8_firstDraft 26 = .ok (.bipush 17, 2) := by decide +kernel
theorem dX8_firstDraft_28 : decode cX8_firstDraft 28 = .ok (.iastore, 1) := by decide +kernel
theorem dX8_firstDraft_29 : decode cX8_firstDraft 29 = .ok (.aload_n 0, 1) := by decide +kernel
theorem dX8_firstDraft_30 : decode cX8_firstDraft 30 = .ok (.iconst 0, 1) := by decide +kernel
theorem dX8_firstDraft_31 : decode cX8_firstDraft 31 = .ok (.putfield 66, 3) := by decide +kernel
theorem dX8_firstDraft_34 : decode cX8_firstDraft 34 = .ok (.aload_n 0, 1) := by decide +kernel
theorem dX8_firstDraft_35 : decode cX8_firstDraft 35 = .ok (.iconst 0, 1) := by decide +kernel
theorem dX8_firstDraft_36 : decode cX8_firstDraft 36 = .ok (.putfield 70, 3) := by decide +kernel
theorem dX8_firstDraft_39 : decode cX8_firstDraft 39 = .ok (.return_, 1) := by decide +kernel
theorem dX8_keepDraft_0 : decode cX8_keepDraft 0 = .ok (.iconst 0, 1) := by decide +kernel
theorem dX8_keepDraft_1 : decode cX8_keepDraft 1 = .ok (.istore_n 1, 1) := by decide +kernel
theorem dX8_keepDraft_2 : decode cX8_keepDraft 2 = .ok (.iload_n 1, 1) := by decide +kernel
theorem dX8_keepDraft_3 : decode cX8_keepDraft 3 = .ok (.bipush 26, 2) := by decide +kernel
theorem dX8_keepDraft_5 : decode cX8_keepDraft 5 = .ok (.if_icmp .ge 21, 3) := by decide +kernel
theorem dX8_keepDraft_8 : decode cX8_keepDraft 8 = .ok (.aload_n 0, 1) := by decide +kernel
theorem dX8_keepDraft_9 : decode cX8_keepDraft 9 = .ok (.getfield 7, 3) := by decide +kernel
theorem dX8_keepDraft_12 : decode cX8_keepDraft 12 = .ok (.iload_n 1, 1) := by decide +kernel
theorem dX8_keepDraft_13 : decode cX8_keepDraft 13 = .ok (.aload_n 0, 1) := by decide +kernel
theorem dX8_keepDraft_14 : decode cX8_keepDraft 14 = .ok (.getfield 20, 3) := by decide +kernel
theorem dX8_keepDraft_17 : decode cX8_keepDraft 17 = .ok (.iload_n 1, 1) := by decide +kernel
theorem dX8_keepDraft_18 : decode cX8_keepDraft 18 = .ok (.iaload, 1) := by decide +kernel
theorem dX8_keepDraft_19 : decode cX8_keepDraft 19 = .ok (.iastore, 1) := by decide +kernel
theorem dX8_keepDraft_20 : decode cX8_keepDraft 20 = .ok (.iinc 1 1, 3) := by decide +kernel
theorem dX8_keepDraft_23 : decode cX8_keepDraft 23 = .ok (.goto (-21), 3) := by decide +kernel
theorem dX8_keepDraft_26 : decode cX8_keepDraft 26 = .ok (.aload_n 0, 1) := by decide +kernel
theorem dX8_keepDraft_27 : decode cX8_keepDraft 27 = .ok (.getfield 16, 3) := by decide +kernel
theorem dX8_keepDraft_30 : decode cX8_keepDraft 30 = .ok (.iconst 0, 1) := by decide +kernel
theorem dX8_keepDraft_31 : decode cX8_keepDraft 31 = .ok (.iconst 0, 1) := by decide +kernel
theorem dX8_keepDraft_32 : decode cX8_keepDraft 32 = .ok (.bastore, 1) := by decide +kernel
theorem dX8_keepDraft_33 : decode cX8_keepDraft 33 = .ok (.aload_n 0, 1) := by decide +kernel
theorem dX8_keepDraft_34 : decode cX8_keepDraft 34 = .ok (.getfield 16, 3) := by decide +kernel
theorem dX8_keepDraft_37 : decode cX8_keepDraft 37 = .ok (.iconst 1, 1) := by decide +kernel
theorem dX8_keepDraft_38 : decode cX8_keepDraft 38 = .ok (.iconst 0, 1) := by decide +kernel
theorem dX8_keepDraft_39 : decode cX8_keepDraft 39 = .ok (.bastore, 1) := by decide +kernel
theorem dX8_keepDraft_40 : decode cX8_keepDraft 40 = .ok (.return_, 1) := by decide +kernel
theorem dX8_feed_0 : decode cX8_feed 0 = .ok (.iload_n 1, 1) := by decide +kernel
theorem dX8_feed_1 : decode cX8_feed 1 = .ok (.i2l, 1) := by decide +kernel
theorem dX8_feed_2 : decode cX8_feed 2 = .ok (.lconst 0, 1) := by decide +kernel
theorem dX8_feed_3 : decode cX8_feed 3 = .ok (.ldc2_w 73, 3) := by decide +kernel
theorem dX8_feed_6 : decode cX8_feed 6 = .ok (.invokestatic 75, 3) := by decide +kernel
theorem dX8_feed_9 : decode cX8_feed 9 = .ok (.ifCond .ne 5, 3) := by decide +kernel
theorem dX8_feed_12 : decode cX8_feed 12 = .ok (.iconst (-1), 1) := by decide +kernel
theorem dX8_feed_13 : decode cX8_feed 13 = .ok (.ireturn, 1) := by decide +kernel
theorem dX8_feed_14 : decode cX8_feed 14 = .ok (.aload_n 0, 1) := by decide +kernel
theorem dX8_feed_15 : decode cX8_feed 15 = .ok (.getfield 79, 3) := by decide +kernel
theorem dX8_feed_18 : decode cX8_feed 18 = .ok (.sipush 160, 3) := by decide +kernel
theorem dX8_feed_21 : decode cX8_feed 21 = .ok (.if_icmp .ne 6, 3) := by decide +kernel
theorem dX8_feed_24 : decode cX8_feed 24 = .ok (.bipush (-3), 2) := by decide +kernel
theorem dX8_feed_26 : decode cX8_feed 26 = .ok (.ireturn, 1) := by decide +kernel
theorem dX8_feed_27 : decode cX8_feed 27 = .ok (.aload_n 0, 1) := by decide +kernel
theorem dX8_feed_28 : decode cX8_feed 28 = .ok (.getfield 23, 3) := by decide +kernel
theorem dX8_feed_31 : decode cX8_feed 31 = .ok (.aload_n 0, 1) := by decide +kernel
theorem dX8_feed_32 : decode cX8_feed 32 = .ok (.getfield 79, 3) := by decide +kernel
theorem dX8_feed_35 : decode cX8_feed 35 = .ok (.iload_n 1, 1) := by decide +kernel
theorem dX8_feed_36 : decode cX8_feed 36 = .ok (.iastore, 1) := by decide +kernel
theorem dX8_feed_37 : decode cX8_feed 37 = .ok (.aload_n 0, 1) := by decide +kernel
theorem dX8_feed_38 : decode cX8_feed 38 = .ok (.dup, 1) := by decide +kernel
theorem dX8_feed_39 : decode cX8_feed 39 = .ok (.getfield 79, 3) := by decide +kernel
theorem dX8_feed_42 : decode cX8_feed 42 = .ok (.iconst 1, 1) := by decide +kernel
theorem dX8_feed_43 : decode cX8_feed 43 = .ok (.iadd, 1) := by decide +kernel
theorem dX8_feed_44 : decode cX8_feed 44 = .ok (.putfield 79, 3) := by decide +kernel
theorem dX8_feed_47 : decode cX8_feed 47 = .ok (.aload_n 0, 1) := by decide +kernel
theorem dX8_feed_48 : decode cX8_feed 48 = .ok (.getfield 79, 3) := by decide +kernel
theorem dX8_feed_51 : decode cX8_feed 51 = .ok (.ireturn, 1) := by decide +kernel
theorem dX8_end_0 : decode cX8_end 0 = .ok (.iload_n 1, 1) := by decide +kernel
theorem dX8_end_1 : decode cX8_end 1 = .ok (.i2l, 1) := by decide +kernel
theorem dX8_end_2 : decode cX8_end 2 = .ok (.lconst 0, 1) := by decide +kernel
theorem dX8_end_3 : decode cX8_end 3 = .ok (.aload_n 0, 1) := by decide +kernel
theorem dX8_end_4 : decode cX8_end 4 = .ok (.getfield 79, 3) := by decide +kernel
theorem dX8_end_7 : decode cX8_end 7 = .ok (.i2l, 1) := by decide +kernel
theorem dX8_end_8 : decode cX8_end 8 = .ok (.invokestatic 75, 3) := by decide +kernel
theorem dX8_end_11 : decode cX8_end 11 = .ok (.ifCond .ne 5, 3) := by decide +kernel
theorem dX8_end_14 : decode cX8_end 14 = .ok (.iconst (-1), 1) := by decide +kernel
theorem dX8_end_15 : decode cX8_end 15 = .ok (.ireturn, 1) := by decide +kernel
theorem dX8_end_16 : decode cX8_end 16 = .ok (.aload_n 0, 1) := by decide +kernel
theorem dX8_end_17 : decode cX8_end 17 = .ok (.getfield 79, 3) := by decide +kernel
theorem dX8_end_20 : decode cX8_end 20 = .ok (.istore_n 2, 1) := by decide +kernel
theorem dX8_end_21 : decode cX8_end 21 = .ok (.aload_n 0, 1) := by decide +kernel
theorem dX8_end_22 : decode cX8_end 22 = .ok (.iload_n 1, 1) := by decide +kernel
theorem dX8_end_23 : decode cX8_end 23 = .ok (.putfield 79, 3) := by decide +kernel
theorem dX8_end_26 : decode cX8_end 26 = .ok (.iload_n 2, 1) := by decide +kernel
theorem dX8_end_27 : decode cX8_end 27 = .ok (.ireturn, 1) := by decide +kernel
theorem dX8_needs_0 : decode cX8_needs 0 = .ok (.iload_n 1, 1) := by decide +kernel
theorem dX8_needs_1 : decode cX8_needs 1 = .ok (.ifCond .ne 23, 3) := by decide +kernel
theorem dX8_needs_4 : decode cX8_needs 4 = .ok (.aload_n 0, 1) := by decide +kernel
theorem dX8_needs_5 : decode cX8_needs 5 = .ok (.getfield 83, 3) := by decide +kernel
theorem dX8_needs_8 : decode cX8_needs 8 = .ok (.ifCond .ne 16, 3) := by decide +kernel
theorem dX8_needs_11 : decode cX8_needs 11 = .ok (.aload_n 0, 1) := by decide +kernel
theorem dX8_needs_12 : decode cX8_needs 12 = .ok (.iload_n 2, 1) := by decide +kernel
theorem dX8_needs_13 : decode cX8_needs 13 = .ok (.putfield 83, 3) := by decide +kernel
theorem dX8_needs_16 : decode cX8_needs 16 = .ok (.aload_n 0, 1) := by decide +kernel
theorem dX8_needs_17 : decode cX8_needs 17 = .ok (.aload_n 0, 1) := by decide +kernel
theorem dX8_needs_18 : decode cX8_needs 18 = .ok (.getfield 86, 3) := by decide +kernel
theorem dX8_needs_21 : decode cX8_needs 21 = .ok (.putfield 89, 3) := by decide +kernel
theorem dX8_needs_24 : decode cX8_needs 24 = .ok (.return_, 1) := by decide +kernel
theorem dX8_byteAt_0 : decode cX8_byteAt 0 = .ok (.iload_n 1, 1) := by decide +kernel
theorem dX8_byteAt_1 : decode cX8_byteAt 1 = .ok (.aload_n 0, 1) := by decide +kernel
theorem dX8_byteAt_2 : decode cX8_byteAt 2 = .ok (.getfield 79, 3) := by decide +kernel
theorem dX8_byteAt_5 : decode cX8_byteAt 5 = .ok (.if_icmp .ge 12, 3) := by decide +kernel
theorem dX8_byteAt_8 : decode cX8_byteAt 8 = .ok (.aload_n 0, 1) := by decide +kernel
theorem dX8_byteAt_9 : decode cX8_byteAt 9 = .ok (.getfield 23, 3) := by decide +kernel
theorem dX8_byteAt_12 : decode cX8_byteAt 12 = .ok (.iload_n 1, 1) := by decide +kernel
theorem dX8_byteAt_13 : decode cX8_byteAt 13 = .ok (.iaload, 1) := by decide +kernel
theorem dX8_byteAt_14 : decode cX8_byteAt 14 = .ok (.goto 4, 3) := by decide +kernel
theorem dX8_byteAt_17 : decode cX8_byteAt 17 = .ok (.iconst (-1), 1) := by decide +kernel
theorem dX8_byteAt_18 : decode cX8_byteAt 18 = .ok (.ireturn, 1) := by decide +kernel
theorem dX8_is_0 : decode cX8_is 0 = .ok (.aload_n 0, 1) := by decide +kernel
theorem dX8_is_1 : decode cX8_is 1 = .ok (.getfield 92, 3) := by decide +kernel
theorem dX8_is_4 : decode cX8_is 4 = .ok (.aload_n 0, 1) := by decide +kernel
theorem dX8_is_5 : decode cX8_is 5 = .ok (.getfield 86, 3) := by decide +kernel
theorem dX8_is_8 : decode cX8_is 8 = .ok (.isub, 1) := by decide +kernel
theorem dX8_is_9 : decode cX8_is 9 = .ok (.iload_n 1, 1) := by decide +kernel
theorem dX8_is_10 : decode cX8_is 10 = .ok (.if_icmp .ne 48, 3) := by decide +kernel
theorem dX8_is_13 : decode cX8_is 13 = .ok (.aload_n 0, 1) := by decide +kernel
theorem dX8_is_14 : decode cX8_is 14 = .ok (.aload_n 0, 1) := by decide +kernel
theorem dX8_is_15 : decode cX8_is 15 = .ok (.getfield 86, 3) := by decide +kernel
theorem dX8_is_18 : decode cX8_is 18 = .ok (.invokevirtual 95, 3) := by decide +kernel
theorem dX8_is_21 : decode cX8_is 21 = .ok (.iload_n 2, 1) := by decide +kernel
theorem dX8_is_22 : decode cX8_is 22 = .ok (.if_icmp .ne 36, 3) := by decide +kernel
theorem dX8_is_25 : decode cX8_is 25 = .ok (.aload_n 0, 1) := by decide +kernel
theorem dX8_is_26 : decode cX8_is 26 = .ok (.aload_n 0, 1) := by decide +kernel
theorem dX8_is_27 : decode cX8_is 27 = .ok (.getfield 86, 3) := by decide +kernel
theorem dX8_is_30 : decode cX8_is 30 = .ok (.iconst 1, 1) := by decide +kernel
theorem dX8_is_31 : decode cX8_is 31 = .ok (.iadd, 1) := by decide +kernel
theorem dX8_is_32 : decode cX8_is 32 = .ok (.invokevirtual 95, 3) := by decide +kernel
theorem dX8_is_35 : decode cX8_is 35 = .ok (.iload_n 3, 1) := by decide +kernel
theorem dX8_is_36 : decode cX8_is 36 = .ok (.if_icmp .ne 22, 3) := by decide +kernel
theorem dX8_is_39 : decode cX8_is 39 = .ok (.aload_n 0, 1) := by decide +kernel
theorem dX8_is_40 : decode cX8_is 40 = .ok (.aload_n 0, 1) := by decide +kernel
theorem dX8_is_41 : decode cX8_is 41 = .ok (.getfield 86, 3) := by decide +kernel
theorem dX8_is_44 : decode cX8_is 44 = .ok (.iconst 2, 1) := by decide +kernel
theorem dX8_is_45 : decode cX8_is 45 = .ok (.iadd, 1) := by decide +kernel
theorem dX8_is_46 : decode cX8_is 46 = .ok (.invokevirtual 95, 3) := by decide +kernel
theorem dX8_is_49 : decode cX8_is 49 = .ok (.iload 4, 2) := by decide +kernel
theorem dX8_is_51 : decode cX8_is 51 = .ok (.if_icmp .ne 7, 3) := by decide +kernel
theorem dX8_is_54 : decode cX8_is 54 = .ok (.iconst 1, 1) := by decide +kernel
theorem dX8_is_55 : decode cX8_is 55 = .ok (.goto 4, 3) := by decide +kernel
theorem dX8_is_58 : decode cX8_is 58 = .ok (.iconst 0, 1) := by decide +kernel
theorem dX8_is_59 : decode cX8_is 59 = .ok (.istore 7, 2) := by decide +kernel
theorem dX8_is_61 : decode cX8_is 61 = .ok (.iload 7, 2) := by decide +kernel
theorem dX8_is_63 : decode cX8_is 63 = .ok (.ifCond .eq 47, 3) := by decide +kernel
theorem dX8_is_66 : decode cX8_is 66 = .ok (.iload 5, 2) := by decide +kernel
theorem dX8_is_68 : decode cX8_is 68 = .ok (.ifCond .eq 18, 3) := by decide +kernel
theorem dX8_is_71 : decode cX8_is 71 = .ok (.aload_n 0, 1) := by decide +kernel
theorem dX8_is_72 : decode cX8_is 72 = .ok (.aload_n 0, 1) := by decide +kernel
theorem dX8_is_73 : decode cX8_is 73 = .ok (.getfield 86, 3) := by decide +kernel
theorem dX8_is_76 : decode cX8_is 76 = .ok (.iconst 3, 1) := by decide +kernel
theorem dX8_is_77 : decode cX8_is 77 = .ok (.iadd, 1) := by decide +kernel
theorem dX8_is_78 : decode cX8_is 78 = .ok (.invokevirtual 95, 3) := by decide +kernel
theorem dX8_is_81 : decode cX8_is 81 = .ok (.iload 5, 2) := by decide +kernel
theorem dX8_is_83 : decode cX8_is 83 = .ok (.if_icmp .ne 27, 3) := by decide +kernel
theorem dX8_is_86 : decode cX8_is 86 = .ok (.iload 6, 2) := by decide +kernel
theorem dX8_is_88 : decode cX8_is 88 = .ok (.ifCond .eq 18, 3) := by decide +kernel
theorem dX8_is_91 : decode cX8_is 91 = .ok (.aload_n 0, 1) := by decide +kernel
theorem dX8_is_92 : decode cX8_is 92 = .ok (.aload_n 0, 1) := by decide +kernel
theorem dX8_is_93 : decode cX8_is 93 = .ok (.getfield 86, 3) := by decide +kernel
theorem dX8_is_96 : decode cX8_is 96 = .ok (.iconst 4, 1) := by decide +kernel
theorem dX8_is_97 : decode cX8_is 97 = .ok (.iadd, 1) := by decide +kernel
theorem dX8_is_98 : decode cX8_is 98 = .ok (.invokevirtual 95, 3) := by decide +kernel
theorem dX8_is_101 : decode cX8_is 101 = .ok (.iload 6, 2) := by decide +kernel
theorem dX8_is_103 : decode cX8_is 103 = .ok (.if_icmp .ne 7, 3) := by decide +kernel
theorem dX8_is_106 : decode cX8_is 106 = .ok (.iconst 1, 1) := by decide +kernel
theorem dX8_is_107 : decode cX8_is 107 = .ok (.goto 4, 3) := by decide +kernel
theorem dX8_is_110 : decode cX8_is 110 = .ok (.iconst 0, 1) := by decide +kernel
theorem dX8_is_111 : decode cX8_is 111 = .ok (.ireturn, 1) := by decide +kernel
theorem dX8_lineNow_0 : decode cX8_lineNow 0 = .ok (.aload_n 0, 1) := by decide +kernel
theorem dX8_lineNow_1 : decode cX8_lineNow 1 = .ok (.iconst 4, 1) := by decide +kernel
theorem dX8_lineNow_2 : decode cX8_lineNow 2 = .ok (.bipush 116, 2) := by decide +kernel
theorem dX8_lineNow_4 : decode cX8_lineNow 4 = .ok (.bipush 111, 2) := by decide +kernel
theorem dX8_lineNow_6 : decode cX8_lineNow 6 = .ok (.bipush 108, 2) := by decide +kernel
theorem dX8_lineNow_8 : decode cX8_lineNow 8 = .ok (.bipush 100, 2) := by decide +kernel
theorem dX8_lineNow_10 : decode cX8_lineNow 10 = .ok (.iconst 0, 1) := by decide +kernel
theorem dX8_lineNow_11 : decode cX8_lineNow 11 = .ok (.invokevirtual 99, 3) := by decide +kernel
theorem dX8_lineNow_14 : decode cX8_lineNow 14 = .ok (.ifCond .eq 5, 3) := by decide +kernel
theorem dX8_lineNow_17 : decode cX8_lineNow 17 = .ok (.iconst 0, 1) := by decide +kernel
theorem dX8_lineNow_18 : decode cX8_lineNow 18 = .ok (.ireturn, 1) := by decide +kernel
theorem dX8_lineNow_19 : decode cX8_lineNow 19 = .ok (.aload_n 0, 1) := by decide +kernel
theorem dX8_lineNow_20 : decode cX8_lineNow 20 = .ok (.iconst 5, 1) := by decide +kernel
theorem dX8_lineNow_21 : decode cX8_lineNow 21 = .ok (.bipush 114, 2) := by decide +kernel
theorem dX8_lineNow_23 : decode cX8_lineNow 23 = .ok (.bipush 101, 2) := by decide +kernel
theorem dX8_lineNow_25 : decode cX8_lineNow 25 = .ok (.bipush 115, 2) := by decide +kernel
theorem dX8_lineNow_27 : decode cX8_lineNow 27 = .ok (.bipush 116, 2) := by decide +kernel
theorem dX8_lineNow_29 : decode cX8_lineNow 29 = .ok (.bipush 115, 2) := by decide +kernel
theorem dX8_lineNow_31 : decode cX8_lineNow 31 = .ok (.invokevirtual 99, 3) := by decide +kernel
theorem dX8_lineNow_34 : decode cX8_lineNow 34 = .ok (.ifCond .eq 5, 3) := by decide +kernel
theorem dX8_lineNow_37 : decode cX8_lineNow 37 = .ok (.iconst 1, 1) := by decide +kernel
theorem dX8_lineNow_38 : decode cX8_lineNow 38 = .ok (.ireturn, 1) := by decide +kernel
theorem dX8_lineNow_39 : decode cX8_lineNow 39 = .ok (.aload_n 0, 1) := by decide +kernel
theorem dX8_lineNow_40 : decode cX8_lineNow 40 = .ok (.iconst 3, 1) := by decide +kernel
theorem dX8_lineNow_41 : decode cX8_lineNow 41 = .ok (.bipush 114, 2) := by decide +kernel
theorem dX8_lineNow_43 : decode cX8_lineNow 43 = .ok (.bipush 111, 2) := by decide +kernel
theorem dX8_lineNow_45 : decode cX8_lineNow 45 = .ok (.bipush 119, 2) := by decide +kernel
theorem dX8_lineNow_47 : decode cX8_lineNow 47 = .ok (.iconst 0, 1) := by decide +kernel
theorem dX8_lineNow_48 : decode cX8_lineNow 48 = .ok (.iconst 0, 1) := by decide +kernel
theorem dX8_lineNow_49 : decode cX8_lineNow 49 = .ok (.invokevirtual 99, 3) := by decide +kernel
theorem dX8_lineNow_52 : decode cX8_lineNow 52 = .ok (.ifCond .eq 5, 3) := by decide +kernel
theorem dX8_lineNow_55 : decode cX8_lineNow 55 = .ok (.iconst 2, 1) := by decide +kernel
theorem dX8_lineNow_56 : decode cX8_lineNow 56 = .ok (.ireturn, 1) := by decide +kernel
theorem dX8_lineNow_57 : decode cX8_lineNow 57 = .ok (.aload_n 0, 1) := by decide +kernel
theorem dX8_lineNow_58 : decode cX8_lineNow 58 = .ok (.iconst 3, 1) := by decide +kernel
theorem dX8_lineNow_59 : decode cX8_lineNow 59 = .ok (.bipush 111, 2) := by decide +kernel
theorem dX8_lineNow_61 : decode cX8_lineNow 61 = .ok (.bipush 100, 2) := by decide +kernel
theorem dX8_lineNow_63 : decode cX8_lineNow 63 = .ok (.bipush 100, 2) := by decide +kernel
theorem dX8_lineNow_65 : decode cX8_lineNow 65 = .ok (.iconst 0, 1) := by decide +kernel
theorem dX8_lineNow_66 : decode cX8_lineNow 66 = .ok (.iconst 0, 1) := by decide +kernel
theorem dX8_lineNow_67 : decode cX8_lineNow 67 = .ok (.invokevirtual 99, 3) := by decide +kernel
theorem dX8_lineNow_70 : decode cX8_lineNow 70 = .ok (.ifCond .eq 5, 3) := by decide +kernel
theorem dX8_lineNow_73 : decode cX8_lineNow 73 = .ok (.iconst 3, 1) := by decide +kernel
theorem dX8_lineNow_74 : decode cX8_lineNow 74 = .ok (.ireturn, 1) := by decide +kernel
theorem dX8_lineNow_75 : decode cX8_lineNow 75 = .ok (.aload_n 0, 1) := by decide +kernel
theorem dX8_lineNow_76 : decode cX8_lineNow 76 = .ok (.iconst 4, 1) := by decide +kernel
theorem dX8_lineNow_77 : decode cX8_lineNow 77 = .ok (.bipush 104, 2) := by decide +kernel
theorem dX8_lineNow_79 : decode cX8_lineNow 79 = .ok (.bipush 101, 2) := by decide +kernel
theorem dX8_lineNow_81 : decode cX8_lineNow 81 = .ok (.bipush 105, 2) := by decide +kernel
theorem dX8_lineNow_83 : decode cX8_lineNow 83 = .ok (.bipush 114, 2) := by decide +kernel
theorem dX8_lineNow_85 : decode cX8_lineNow 85 = .ok (.iconst 0, 1) := by decide +kernel
theorem dX8_lineNow_86 : decode cX8_lineNow 86 = .ok (.invokevirtual 99, 3) := by decide +kernel
theorem dX8_lineNow_89 : decode cX8_lineNow 89 = .ok (.ifCond .eq 7, 3) := by decide +kernel
theorem dX8_lineNow_92 : decode cX8_lineNow 92 = .ok (.iconst 4, 1) := by decide +kernel
theorem dX8_lineNow_93 : decode cX8_lineNow 93 = .ok (.goto 26, 3) := by decide +kernel
theorem dX8_lineNow_96 : decode cX8_lineNow 96 = .ok (.aload_n 0, 1) := by decide +kernel
theorem dX8_lineNow_97 : decode cX8_lineNow 97 = .ok (.iconst 4, 1) := by decide +kernel
theorem dX8_lineNow_98 : decode cX8_lineNow 98 = .ok (.bipush 104, 2) := by decide +kernel
theorem dX8_lineNow_100 : decode cX8_lineNow 100 = .ok (.bipush 101, 2) := by decide +kernel
theorem dX8_lineNow_102 : decode cX8_lineNow 102 = .ok (.bipush 114, 2) := by decide +kernel
theorem dX8_lineNow_104 : decode cX8_lineNow 104 = .ok (.bipush 100, 2) := by decide +kernel
theorem dX8_lineNow_106 : decode cX8_lineNow 106 = .ok (.iconst 0, 1) := by decide +kernel
theorem dX8_lineNow_107 : decode cX8_lineNow 107 = .ok (.invokevirtual 99, 3) := by decide +kernel
theorem dX8_lineNow_110 : decode cX8_lineNow 110 = .ok (.ifCond .eq 7, 3) := by decide +kernel
theorem dX8_lineNow_113 : decode cX8_lineNow 113 = .ok (.iconst 5, 1) := by decide +kernel
theorem dX8_lineNow_114 : decode cX8_lineNow 114 = .ok (.goto 5, 3) := by decide +kernel
theorem dX8_lineNow_117 : decode cX8_lineNow 117 = .ok (.bipush (-4), 2) := by decide +kernel
theorem dX8_lineNow_119 : decode cX8_lineNow 119 = .ok (.ireturn, 1) := by decide +kernel
theorem dX8_takes_0 : decode cX8_takes 0 = .ok (.aload_n 0, 1) := by decide +kernel
theorem dX8_takes_1 : decode cX8_takes 1 = .ok (.getfield 83, 3) := by decide +kernel
theorem dX8_takes_4 : decode cX8_takes 4 = .ok (.ifCond .le 4, 3) := by decide +kernel
theorem dX8_takes_7 : decode cX8_takes 7 = .ok (.return_, 1) := by decide +kernel
theorem dX8_takes_8 : decode cX8_takes 8 = .ok (.aload_n 0, 1) := by decide +kernel
theorem dX8_takes_9 : decode cX8_takes 9 = .ok (.aload_n 0, 1) := by decide +kernel
theorem dX8_takes_10 : decode cX8_takes 10 = .ok (.getfield 92, 3) := by decide +kernel
theorem dX8_takes_13 : decode cX8_takes 13 = .ok (.invokevirtual 95, 3) := by decide +kernel
theorem dX8_takes_16 : decode cX8_takes 16 = .ok (.bipush 32, 2) := by decide +kernel
theorem dX8_takes_18 : decode cX8_takes 18 = .ok (.if_icmp .ne 16, 3) := by decide +kernel
theorem dX8_takes_21 : decode cX8_takes 21 = .ok (.aload_n 0, 1) := by decide +kernel
theorem dX8_takes_22 : decode cX8_takes 22 = .ok (.dup, 1) := by decide +kernel
theorem dX8_takes_23 : decode cX8_takes 23 = .ok (.getfield 92, 3) := by decide +kernel
theorem dX8_takes_26 : decode cX8_takes 26 = .ok (.iconst 1, 1) := by decide +kernel
theorem dX8_takes_27 : decode cX8_takes 27 = .ok (.iadd, 1) := by decide +kernel
theorem dX8_takes_28 : decode cX8_takes 28 = .ok (.putfield 92, 3) := by decide +kernel
theorem dX8_takes_31 : decode cX8_takes 31 = .ok (.goto (-23), 3) := by decide +kernel
theorem dX8_takes_34 : decode cX8_takes 34 = .ok (.aload_n 0, 1) := by decide +kernel
theorem dX8_takes_35 : decode cX8_takes 35 = .ok (.aload_n 0, 1) := by decide +kernel
theorem dX8_takes_36 : decode cX8_takes 36 = .ok (.getfield 92, 3) := by decide +kernel
theorem dX8_takes_39 : decode cX8_takes 39 = .ok (.putfield 86, 3) := by decide +kernel
theorem dX8_takes_42 : decode cX8_takes 42 = .ok (.aload_n 0, 1) := by decide +kernel
theorem dX8_takes_43 : decode cX8_takes 43 = .ok (.aload_n 0, 1) := by decide +kernel
theorem dX8_takes_44 : decode cX8_takes 44 = .ok (.getfield 92, 3) := by decide +kernel
theorem dX8_takes_47 : decode cX8_takes 47 = .ok (.invokevirtual 95, 3) := by decide +kernel
theorem dX8_takes_50 : decode cX8_takes 50 = .ok (.istore_n 1, 1) := by decide +kernel
theorem dX8_takes_51 : decode cX8_takes 51 = .ok (.iload_n 1, 1) := by decide +kernel
theorem dX8_takes_52 : decode cX8_takes 52 = .ok (.ifCond .ge 11, 3) := by decide +kernel
theorem dX8_takes_55 : decode cX8_takes 55 = .ok (.aload_n 0, 1) := by decide +kernel
theorem dX8_takes_56 : decode cX8_takes 56 = .ok (.iconst 0, 1) := by decide +kernel
theorem dX8_takes_57 : decode cX8_takes 57 = .ok (.putfield 103, 3) := by decide +kernel
theorem dX8_takes_60 : decode cX8_takes 60 = .ok (.goto 214, 3) := by decide +kernel
theorem dX8_takes_63 : decode cX8_takes 63 = .ok (.iload_n 1, 1) := by decide +kernel
theorem dX8_takes_64 : decode cX8_takes 64 = .ok (.i2l, 1) := by decide +kernel
theorem dX8_takes_65 : decode cX8_takes 65 = .ok (.ldc2_w 106, 3) := by decide +kernel
theorem dX8_takes_68 : decode cX8_takes 68 = .ok (.ldc2_w 108, 3) := by decide +kernel
theorem dX8_takes_71 : decode cX8_takes 71 = .ok (.invokestatic 75, 3) := by decide +kernel
theorem dX8_takes_74 : decode cX8_takes 74 = .ok (.ifCond .eq 42, 3) := by decide +kernel
theorem dX8_takes_77 : decode cX8_takes 77 = .ok (.aload_n 0, 1) := by decide +kernel
theorem dX8_takes_78 : decode cX8_takes 78 = .ok (.iconst 1, 1) := by decide +kernel
theorem dX8_takes_79 : decode cX8_takes 79 = .ok (.putfield 103, 3) := by decide +kernel
theorem dX8_takes_82 : decode cX8_takes 82 = .ok (.aload_n 0, 1) := by decide +kernel
theorem dX8_takes_83 : decode cX8_takes 83 = .ok (.aload_n 0, 1) := by decide +kernel
theorem dX8_takes_84 : decode cX8_takes 84 = .ok (.getfield 92, 3) := by decide +kernel
theorem dX8_takes_87 : decode cX8_takes 87 = .ok (.invokevirtual 95, 3) := by decide +kernel
theorem dX8_takes_90 : decode cX8_takes 90 = .ok (.i2l, 1) := by decide +kernel
theorem dX8_takes_91 : decode cX8_takes 91 = .ok (.ldc2_w 106, 3) := by decide +kernel
theorem dX8_takes_94 : decode cX8_takes 94 = .ok (.ldc2_w 108, 3) := by decide +kernel
theorem dX8_takes_97 : decode cX8_takes 97 = .ok (.invokestatic 75, 3) := by decide +kernel
theorem dX8_takes_100 : decode cX8_takes 100 = .ok (.ifCond .eq 174, 3) := by decide +kernel
theorem dX8_takes_103 : decode cX8_takes 103 = .ok (.aload_n 0, 1) := by decide +kernel
theorem dX8_takes_104 : decode cX8_takes 104 = .ok (.dup, 1) := by decide +kernel
theorem dX8_takes_105 : decode cX8_takes 105 = .ok (.getfield 92, 3) := by decide +kernel
theorem dX8_takes_108 : decode cX8_takes 108 = .ok (.iconst 1, 1) := by decide +kernel
theorem dX8_takes_109 : decode cX8_takes 109 = .ok (.iadd, 1) := by decide +kernel
theorem dX8_takes_110 : decode cX8_takes 110 = .ok (.putfield 92, 3) := by decide +kernel
theorem dX8_takes_113 : decode cX8_takes 113 = .ok (.goto (-31), 3) := by decide +kernel
theorem dX8_takes_116 : decode cX8_takes 116 = .ok (.iload_n 1, 1) := by decide +kernel
theorem dX8_takes_117 : decode cX8_takes 117 = .ok (.i2l, 1) := by decide +kernel
theorem dX8_takes_118 : decode cX8_takes 118 = .ok (.ldc2_w 110, 3) := by decide +kernel
theorem dX8_takes_121 : decode cX8_takes 121 = .ok (.ldc2_w 112, 3) := by decide +kernel
theorem dX8_takes_124 : decode cX8_takes 124 = .ok (.invokestatic 75, 3) := by decide +kernel
theorem dX8_takes_127 : decode cX8_takes 127 = .ok (.ifCond .eq 116, 3) := by decide +kernel
theorem dX8_takes_130 : decode cX8_takes 130 = .ok (.aload_n 0, 1) := by decide +kernel
theorem dX8_takes_131 : decode cX8_takes 131 = .ok (.iconst 2, 1) := by decide +kernel
theorem dX8_takes_132 : decode cX8_takes 132 = .ok (.putfield 103, 3) := by decide +kernel
theorem dX8_takes_135 : decode cX8_takes 135 = .ok (.aload_n 0, 1) := by decide +kernel
theorem dX8_takes_136 : decode cX8_takes 136 = .ok (.iconst 0, 1) := by decide +kernel
theorem dX8_takes_137 : decode cX8_takes 137 = .ok (.putfield 114, 3) := by decide +kernel
theorem dX8_takes_140 : decode cX8_takes 140 = .ok (.aload_n 0, 1) := by decide +kernel
theorem dX8_takes_141 : decode cX8_takes 141 = .ok (.aload_n 0, 1) := by decide +kernel
theorem dX8_takes_142 : decode cX8_takes 142 = .ok (.getfield 92, 3) := by decide +kernel
theorem dX8_takes_145 : decode cX8_takes 145 = .ok (.invokevirtual 95, 3) := by decide +kernel
theorem dX8_takes_148 : decode cX8_takes 148 = .ok (.i2l, 1) := by decide +kernel
theorem dX8_takes_149 : decode cX8_takes 149 = .ok (.ldc2_w 110, 3) := by decide +kernel
theorem dX8_takes_152 : decode cX8_takes 152 = .ok (.ldc2_w 112, 3) := by decide +kernel
theorem dX8_takes_155 : decode cX8_takes 155 = .ok (.invokestatic 75, 3) := by decide +kernel
theorem dX8_takes_158 : decode cX8_takes 158 = .ok (.ifCond .eq 59, 3) := by decide +kernel
theorem dX8_takes_161 : decode cX8_takes 161 = .ok (.aload_n 0, 1) := by decide +kernel
theorem dX8_takes_162 : decode cX8_takes 162 = .ok (.aload_n 0, 1) := by decide +kernel
theorem dX8_takes_163 : decode cX8_takes 163 = .ok (.getfield 92, 3) := by decide +kernel
theorem dX8_takes_166 : decode cX8_takes 166 = .ok (.aload_n 0, 1) := by decide +kernel
theorem dX8_takes_167 : decode cX8_takes 167 = .ok (.getfield 86, 3) := by decide +kernel
theorem dX8_takes_170 : decode cX8_takes 170 = .ok (.isub, 1) := by decide +kernel
theorem dX8_takes_171 : decode cX8_takes 171 = .ok (.iconst 3, 1) := by decide +kernel
theorem dX8_takes_172 : decode cX8_takes 172 = .ok (.if_icmp .ge 25, 3) := by decide +kernel
theorem dX8_takes_175 : decode cX8_takes 175 = .ok (.bipush 10, 2) := by decide +kernel
theorem dX8_takes_177 : decode cX8_takes 177 = .ok (.aload_n 0, 1) := by decide +kernel
theorem dX8_takes_178 : decode cX8_takes 178 = .ok (.getfield 114, 3) := by decide +kernel
theorem dX8_takes_181 : decode cX8_takes 181 = .ok (.imul, 1) := by decide +kernel
theorem dX8_takes_182 : decode cX8_takes 182 = .ok (.aload_n 0, 1) := by decide +kernel
theorem dX8_takes_183 : decode cX8_takes 183 = .ok (.aload_n 0, 1) := by decide +kernel
theorem dX8_takes_184 : decode cX8_takes 184 = .ok (.getfield 92, 3) := by decide +kernel
theorem dX8_takes_187 : decode cX8_takes 187 = .ok (.invokevirtual 95, 3) := by decide +kernel
theorem dX8_takes_190 : decode cX8_takes 190 = .ok (.iadd, 1) := by decide +kernel
theorem dX8_takes_191 : decode cX8_takes 191 = .ok (.bipush 48, 2) := by decide +kernel
theorem dX8_takes_193 : decode cX8_takes 193 = .ok (.isub, 1) := by decide +kernel
theorem dX8_takes_194 : decode cX8_takes 194 = .ok (.goto 7, 3) := by decide +kernel
theorem dX8_takes_197 : decode cX8_takes 197 = .ok (.aload_n 0, 1) := by decide +kernel
theorem dX8_takes_198 : decode cX8_takes 198 = .ok (.getfield 114, 3) := by decide +kernel
theorem dX8_takes_201 : decode cX8_takes 201 = .ok (.putfield 114, 3) := by decide +kernel
theorem dX8_takes_204 : decode cX8_takes 204 = .ok (.aload_n 0, 1) := by decide +kernel
theorem dX8_takes_205 : decode cX8_takes 205 = .ok (.dup, 1) := by decide +kernel
theorem dX8_takes_206 : decode cX8_takes 206 = .ok (.getfield 92, 3) := by decide +kernel
theorem dX8_takes_209 : decode cX8_takes 209 = .ok (.iconst 1, 1) := by decide +kernel
theorem dX8_takes_210 : decode cX8_takes 210 = .ok (.iadd, 1) := by decide +kernel
theorem dX8_takes_211 : decode cX8_takes 211 = .ok (.putfield 92, 3) := by decide +kernel
theorem dX8_takes_214 : decode cX8_takes 214 = .ok (.goto (-74), 3) := by decide +kernel
theorem dX8_takes_217 : decode cX8_takes 217 = .ok (.aload_n 0, 1) := by decide +kernel
theorem dX8_takes_218 : decode cX8_takes 218 = .ok (.aload_n 0, 1) := by decide +kernel
theorem dX8_takes_219 : decode cX8_takes 219 = .ok (.getfield 92, 3) := by decide +kernel
theorem dX8_takes_222 : decode cX8_takes 222 = .ok (.aload_n 0, 1) := by decide +kernel
theorem dX8_takes_223 : decode cX8_takes 223 = .ok (.getfield 86, 3) := by decide +kernel
theorem dX8_takes_226 : decode cX8_takes 226 = .ok (.isub, 1) := by decide +kernel
theorem dX8_takes_227 : decode cX8_takes 227 = .ok (.iconst 3, 1) := by decide +kernel
theorem dX8_takes_228 : decode cX8_takes 228 = .ok (.if_icmp .gt 7, 3) := by decide +kernel
theorem dX8_takes_231 : decode cX8_takes 231 = .ok (.iconst 1, 1) := by decide +kernel
theorem dX8_takes_232 : decode cX8_takes 232 = .ok (.goto 4, 3) := by decide +kernel
theorem dX8_takes_235 : decode cX8_takes 235 = .ok (.iconst 0, 1) := by decide +kernel
theorem dX8_takes_236 : decode cX8_takes 236 = .ok (.iconst 1, 1) := by decide +kernel
theorem dX8_takes_237 : decode cX8_takes 237 = .ok (.invokevirtual 117, 3) := by decide +kernel
theorem dX8_takes_240 : decode cX8_takes 240 = .ok (.goto 34, 3) := by decide +kernel
theorem dX8_takes_243 : decode cX8_takes 243 = .ok (.aload_n 0, 1) := by decide +kernel
theorem dX8_takes_244 : decode cX8_takes 244 = .ok (.iconst 3, 1) := by decide +kernel
theorem dX8_takes_245 : decode cX8_takes 245 = .ok (.putfield 103, 3) := by decide +kernel
theorem dX8_takes_248 : decode cX8_takes 248 = .ok (.aload_n 0, 1) := by decide +kernel
theorem dX8_takes_249 : decode cX8_takes 249 = .ok (.iload_n 1, 1) := by decide +kernel
theorem dX8_takes_250 : decode cX8_takes 250 = .ok (.bipush 59, 2) := by decide +kernel
theorem dX8_takes_252 : decode cX8_takes 252 = .ok (.if_icmp .ne 7, 3) := by decide +kernel
theorem dX8_takes_255 : decode cX8_takes 255 = .ok (.iconst 1, 1) := by decide +kernel
theorem dX8_takes_256 : decode cX8_takes 256 = .ok (.goto 4, 3) := by decide +kernel
theorem dX8_takes_259 : decode cX8_takes 259 = .ok (.iconst 0, 1) := by decide +kernel
theorem dX8_takes_260 : decode cX8_takes 260 = .ok (.iconst 1, 1) := by decide +kernel
theorem dX8_takes_261 : decode cX8_takes 261 = .ok (.invokevirtual 117, 3) := by decide +kernel
theorem dX8_takes_264 : decode cX8_takes 264 = .ok (.aload_n 0, 1) := by decide +kernel
theorem dX8_takes_265 : decode cX8_takes 265 = .ok (.dup, 1) := by decide +kernel
theorem dX8_takes_266 : decode cX8_takes 266 = .ok (.getfield 92, 3) := by decide +kernel
theorem dX8_takes_269 : decode cX8_takes 269 = .ok (.iconst 1, 1) := by decide +kernel
theorem dX8_takes_270 : decode cX8_takes 270 = .ok (.iadd, 1) := by decide +kernel
theorem dX8_takes_271 : decode cX8_takes 271 = .ok (.putfield 92, 3) := by decide +kernel
theorem dX8_takes_274 : decode cX8_takes 274 = .ok (.return_, 1) := by decide +kernel
theorem dX8_readNumber_0 : decode cX8_readNumber 0 = .ok (.aload_n 0, 1) := by decide +kernel
theorem dX8_readNumber_1 : decode cX8_readNumber 1 = .ok (.getfield 83, 3) := by decide +kernel
theorem dX8_readNumber_4 : decode cX8_readNumber 4 = .ok (.ifCond .ne 21, 3) := by decide +kernel
theorem dX8_readNumber_7 : decode cX8_readNumber 7 = .ok (.aload_n 0, 1) := by decide +kernel
theorem dX8_readNumber_8 : decode cX8_readNumber 8 = .ok (.aload_n 0, 1) := by decide +kernel
theorem dX8_readNumber_9 : decode cX8_readNumber 9 = .ok (.getfield 103, 3) := by decide +kernel
theorem dX8_readNumber_12 : decode cX8_readNumber 12 = .ok (.iconst 2, 1) := by decide +kernel
theorem dX8_readNumber_13 : decode cX8_readNumber 13 = .ok (.if_icmp .ne 7, 3) := by decide +kernel
theorem dX8_readNumber_16 : decode cX8_readNumber 16 = .ok (.iconst 1, 1) := by decide +kernel
theorem dX8_readNumber_17 : decode cX8_readNumber 17 = .ok (.goto 4, 3) := by decide +kernel
theorem dX8_readNumber_20 : decode cX8_readNumber 20 = .ok (.iconst 0, 1) := by decide +kernel
theorem dX8_readNumber_21 : decode cX8_readNumber 21 = .ok (.iconst 2, 1) := by decide +kernel
theorem dX8_readNumber_22 : decode cX8_readNumber 22 = .ok (.invokevirtual 117, 3) := by decide +kernel
theorem dX8_readNumber_25 : decode cX8_readNumber 25 = .ok (.aload_n 0, 1) := by decide +kernel
theorem dX8_readNumber_26 : decode cX8_readNumber 26 = .ok (.getfield 83, 3) := by decide +kernel
theorem dX8_readNumber_29 : decode cX8_readNumber 29 = .ok (.ifCond .ne 20, 3) := by decide +kernel
theorem dX8_readNumber_32 : decode cX8_readNumber 32 = .ok (.aload_n 0, 1) := by decide +kernel
theorem dX8_readNumber_33 : decode cX8_readNumber 33 = .ok (.aload_n 0, 1) := by decide +kernel
theorem dX8_readNumber_34 : decode cX8_readNumber 34 = .ok (.getfield 114, 3) := by decide +kernel
theorem dX8_readNumber_37 : decode cX8_readNumber 37 = .ok (.i2l, 1) := by decide +kernel
theorem dX8_readNumber_38 : decode cX8_readNumber 38 = .ok (.iload_n 1, 1) := by decide +kernel
theorem dX8_readNumber_39 : decode cX8_readNumber 39 = .ok (.i2l, 1) := by decide +kernel
theorem dX8_readNumber_40 : decode cX8_readNumber 40 = .ok (.iload_n 2, 1) := by decide +kernel
theorem dX8_readNumber_41 : decode cX8_readNumber 41 = .ok (.i2l, 1) := by decide +kernel
theorem dX8_readNumber_42 : decode cX8_readNumber 42 = .ok (.invokestatic 75, 3) := by decide +kernel
theorem dX8_readNumber_45 : decode cX8_readNumber 45 = .ok (.iconst 3, 1) := by decide +kernel
theorem dX8_readNumber_46 : decode cX8_readNumber 46 = .ok (.invokevirtual 117, 3) := by decide +kernel
theorem dX8_readNumber_49 : decode cX8_readNumber 49 = .ok (.aload_n 0, 1) := by decide +kernel
theorem dX8_readNumber_50 : decode cX8_readNumber 50 = .ok (.getfield 83, 3) := by decide +kernel
theorem dX8_readNumber_53 : decode cX8_readNumber 53 = .ok (.ifCond .ne 10, 3) := by decide +kernel
theorem dX8_readNumber_56 : decode cX8_readNumber 56 = .ok (.aload_n 0, 1) := by decide +kernel
theorem dX8_readNumber_57 : decode cX8_readNumber 57 = .ok (.getfield 114, 3) := by decide +kernel
theorem dX8_readNumber_60 : decode cX8_readNumber 60 = .ok (.goto 4, 3) := by decide +kernel
theorem dX8_readNumber_63 : decode cX8_readNumber 63 = .ok (.iconst 0, 1) := by decide +kernel
theorem dX8_readNumber_64 : decode cX8_readNumber 64 = .ok (.istore_n 3, 1) := by decide +kernel
theorem dX8_readNumber_65 : decode cX8_readNumber 65 = .ok (.aload_n 0, 1) := by decide +kernel
theorem dX8_readNumber_66 : decode cX8_readNumber 66 = .ok (.invokevirtual 121, 3) := by decide +kernel
theorem dX8_readNumber_69 : decode cX8_readNumber 69 = .ok (.iload_n 3, 1) := by decide +kernel
theorem dX8_readNumber_70 : decode cX8_readNumber 70 = .ok (.ireturn, 1) := by decide +kernel
theorem dX8_readLineOf_0 : decode cX8_readLineOf 0 = .ok (.iload_n 1, 1) := by decide +kernel
theorem dX8_readLineOf_1 : decode cX8_readLineOf 1 = .ok (.lookupswitch 103 #[(4, 27), (5, 86)], 27) := by decide +kernel
theorem dX8_readLineOf_28 : decode cX8_readLineOf 28 = .ok (.aload_n 0, 1) := by decide +kernel
theorem dX8_readLineOf_29 : decode cX8_readLineOf 29 = .ok (.getfield 20, 3) := by decide +kernel
theorem dX8_readLineOf_32 : decode cX8_readLineOf 32 = .ok (.iconst 3, 1) := by decide +kernel
theorem dX8_readLineOf_33 : decode cX8_readLineOf 33 = .ok (.iconst 2, 1) := by decide +kernel
theorem dX8_readLineOf_34 : decode cX8_readLineOf 34 = .ok (.aload_n 0, 1) := by decide +kernel
theorem dX8_readLineOf_35 : decode cX8_readLineOf 35 = .ok (.getfield 20, 3) := by decide +kernel
theorem dX8_readLineOf_38 : decode cX8_readLineOf 38 = .ok (.iconst 1, 1) := by decide +kernel
theorem dX8_readLineOf_39 : decode cX8_readLineOf 39 = .ok (.iaload, 1) := by decide +kernel
theorem dX8_readLineOf_40 : decode cX8_readLineOf 40 = .ok (.imul, 1) := by decide +kernel
theorem dX8_readLineOf_41 : decode cX8_readLineOf 41 = .ok (.iadd, 1) := by decide +kernel
theorem dX8_readLineOf_42 : decode cX8_readLineOf 42 = .ok (.aload_n 0, 1) := by decide +kernel
theorem dX8_readLineOf_43 : decode cX8_readLineOf 43 = .ok (.iconst 1, 1) := by decide +kernel
theorem dX8_readLineOf_44 : decode cX8_readLineOf 44 = .ok (.bipush 9, 2) := by decide +kernel
theorem dX8_readLineOf_46 : decode cX8_readLineOf 46 = .ok (.invokevirtual 124, 3) := by decide +kernel
theorem dX8_readLineOf_49 : decode cX8_readLineOf 49 = .ok (.iastore, 1) := by decide +kernel
theorem dX8_readLineOf_50 : decode cX8_readLineOf 50 = .ok (.aload_n 0, 1) := by decide +kernel
theorem dX8_readLineOf_51 : decode cX8_readLineOf 51 = .ok (.getfield 20, 3) := by decide +kernel
theorem dX8_readLineOf_54 : decode cX8_readLineOf 54 = .ok (.iconst 3, 1) := by decide +kernel
theorem dX8_readLineOf_55 : decode cX8_readLineOf 55 = .ok (.iconst 2, 1) := by decide +kernel
theorem dX8_readLineOf_56 : decode cX8_readLineOf 56 = .ok (.aload_n 0, 1) := by decide +kernel
theorem dX8_readLineOf_57 : decode cX8_readLineOf 57 = .ok (.getfield 20, 3) := by decide +kernel
theorem dX8_readLineOf_60 : decode cX8_readLineOf 60 = .ok (.iconst 1, 1) := by decide +kernel
theorem dX8_readLineOf_61 : decode cX8_readLineOf 61 = .ok (.iaload, 1) := by decide +kernel
theorem dX8_readLineOf_62 : decode cX8_readLineOf 62 = .ok (.imul, 1) := by decide +kernel
theorem dX8_readLineOf_63 : decode cX8_readLineOf 63 = .ok (.iadd, 1) := by decide +kernel
theorem dX8_readLineOf_64 : decode cX8_readLineOf 64 = .ok (.iconst 1, 1) := by decide +kernel
theorem dX8_readLineOf_65 : decode cX8_readLineOf 65 = .ok (.iadd, 1) := by decide +kernel
theorem dX8_readLineOf_66 : decode cX8_readLineOf 66 = .ok (.aload_n 0, 1) := by decide +kernel
theorem dX8_readLineOf_67 : decode cX8_readLineOf 67 = .ok (.iconst 1, 1) := by decide +kernel
theorem dX8_readLineOf_68 : decode cX8_readLineOf 68 = .ok (.bipush 99, 2) := by decide +kernel
theorem dX8_readLineOf_70 : decode cX8_readLineOf 70 = .ok (.invokevirtual 124, 3) := by decide +kernel
theorem dX8_readLineOf_73 : decode cX8_readLineOf 73 = .ok (.iastore, 1) := by decide +kernel
theorem dX8_readLineOf_74 : decode cX8_readLineOf 74 = .ok (.aload_n 0, 1) := by decide +kernel
theorem dX8_readLineOf_75 : decode cX8_readLineOf 75 = .ok (.getfield 20, 3) := by decide +kernel
theorem dX8_readLineOf_78 : decode cX8_readLineOf 78 = .ok (.iconst 1, 1) := by decide +kernel
theorem dX8_readLineOf_79 : decode cX8_readLineOf 79 = .ok (.dup2, 1) := by decide +kernel
theorem dX8_readLineOf_80 : decode cX8_readLineOf 80 = .ok (.iaload, 1) := by decide +kernel
theorem dX8_readLineOf_81 : decode cX8_readLineOf 81 = .ok (.iconst 1, 1) := by decide +kernel
theorem dX8_readLineOf_82 : decode cX8_readLineOf 82 = .ok (.iadd, 1) := by decide +kernel
theorem dX8_readLineOf_83 : decode cX8_readLineOf 83 = .ok (.iastore, 1) := by decide +kernel
theorem dX8_readLineOf_84 : decode cX8_readLineOf 84 = .ok (.goto 27, 3) := by decide +kernel
theorem dX8_readLineOf_87 : decode cX8_readLineOf 87 = .ok (.aload_n 0, 1) := by decide +kernel
theorem dX8_readLineOf_88 : decode cX8_readLineOf 88 = .ok (.getfield 20, 3) := by decide +kernel
theorem dX8_readLineOf_91 : decode cX8_readLineOf 91 = .ok (.iconst 0, 1) := by decide +kernel
theorem dX8_readLineOf_92 : decode cX8_readLineOf 92 = .ok (.aload_n 0, 1) := by decide +kernel
theorem dX8_readLineOf_93 : decode cX8_readLineOf 93 = .ok (.iconst 0, 1) := by decide +kernel
theorem dX8_readLineOf_94 : decode cX8_readLineOf 94 = .ok (.sipush 999, 3) := by decide +kernel
theorem dX8_readLineOf_97 : decode cX8_readLineOf 97 = .ok (.invokevirtual 124, 3) := by decide +kernel
theorem dX8_readLineOf_100 : decode cX8_readLineOf 100 = .ok (.iastore, 1) := by decide +kernel
theorem dX8_readLineOf_101 : decode cX8_readLineOf 101 = .ok (.goto 10, 3) := by decide +kernel
theorem dX8_readLineOf_104 : decode cX8_readLineOf 104 = .ok (.aload_n 0, 1) := by decide +kernel
theorem dX8_readLineOf_105 : decode cX8_readLineOf 105 = .ok (.getfield 20, 3) := by decide +kernel
theorem dX8_readLineOf_108 : decode cX8_readLineOf 108 = .ok (.iconst 2, 1) := by decide +kernel
theorem dX8_readLineOf_109 : decode cX8_readLineOf 109 = .ok (.iload_n 1, 1) := by decide +kernel
theorem dX8_readLineOf_110 : decode cX8_readLineOf 110 = .ok (.iastore, 1) := by decide +kernel
theorem dX8_readLineOf_111 : decode cX8_readLineOf 111 = .ok (.return_, 1) := by decide +kernel
theorem dX8_readLine_0 : decode cX8_readLine 0 = .ok (.aload_n 0, 1) := by decide +kernel
theorem dX8_readLine_1 : decode cX8_readLine 1 = .ok (.getfield 103, 3) := by decide +kernel
theorem dX8_readLine_4 : decode cX8_readLine 4 = .ok (.iconst 1, 1) := by decide +kernel
theorem dX8_readLine_5 : decode cX8_readLine 5 = .ok (.if_icmp .ne 10, 3) := by decide +kernel
theorem dX8_readLine_8 : decode cX8_readLine 8 = .ok (.aload_n 0, 1) := by decide +kernel
theorem dX8_readLine_9 : decode cX8_readLine 9 = .ok (.invokevirtual 128, 3) := by decide +kernel
theorem dX8_readLine_12 : decode cX8_readLine 12 = .ok (.goto 5, 3) := by decide +kernel
theorem dX8_readLine_15 : decode cX8_readLine 15 = .ok (.bipush (-4), 2) := by decide +kernel
theorem dX8_readLine_17 : decode cX8_readLine 17 = .ok (.istore_n 1, 1) := by decide +kernel
theorem dX8_readLine_18 : decode cX8_readLine 18 = .ok (.aload_n 0, 1) := by decide +kernel
theorem dX8_readLine_19 : decode cX8_readLine 19 = .ok (.iload_n 1, 1) := by decide +kernel
theorem dX8_readLine_20 : decode cX8_readLine 20 = .ok (.bipush (-4), 2) := by decide +kernel
theorem dX8_readLine_22 : decode cX8_readLine 22 = .ok (.if_icmp .eq 7, 3) := by decide +kernel
theorem dX8_readLine_25 : decode cX8_readLine 25 = .ok (.iconst 1, 1) := by decide +kernel
theorem dX8_readLine_26 : decode cX8_readLine 26 = .ok (.goto 4, 3) := by decide +kernel
theorem dX8_readLine_29 : decode cX8_readLine 29 = .ok (.iconst 0, 1) := by decide +kernel
theorem dX8_readLine_30 : decode cX8_readLine 30 = .ok (.iconst 2, 1) := by decide +kernel
theorem dX8_readLine_31 : decode cX8_readLine 31 = .ok (.invokevirtual 117, 3) := by decide +kernel
theorem dX8_readLine_34 : decode cX8_readLine 34 = .ok (.aload_n 0, 1) := by decide +kernel
theorem dX8_readLine_35 : decode cX8_readLine 35 = .ok (.getfield 83, 3) := by decide +kernel
theorem dX8_readLine_38 : decode cX8_readLine 38 = .ok (.ifCond .ne 107, 3) := by decide +kernel
theorem dX8_readLine_41 : decode cX8_readLine 41 = .ok (.aload_n 0, 1) := by decide +kernel
theorem dX8_readLine_42 : decode cX8_readLine 42 = .ok (.iload_n 1, 1) := by decide +kernel
theorem dX8_readLine_43 : decode cX8_readLine 43 = .ok (.iconst 4, 1) := by decide +kernel
theorem dX8_readLine_44 : decode cX8_readLine 44 = .ok (.if_icmp .ne 13, 3) := by decide +kernel
theorem dX8_readLine_47 : decode cX8_readLine 47 = .ok (.aload_n 0, 1) := by decide +kernel
theorem dX8_readLine_48 : decode cX8_readLine 48 = .ok (.getfield 20, 3) := by decide +kernel
theorem dX8_readLine_51 : decode cX8_readLine 51 = .ok (.iconst 1, 1) := by decide +kernel
theorem dX8_readLine_52 : decode cX8_readLine 52 = .ok (.iaload, 1) := by decide +kernel
theorem dX8_readLine_53 : decode cX8_readLine 53 = .ok (.iconst 5, 1) := by decide +kernel
theorem dX8_readLine_54 : decode cX8_readLine 54 = .ok (.if_icmp .ge 7, 3) := by decide +kernel
theorem dX8_readLine_57 : decode cX8_readLine 57 = .ok (.iconst 1, 1) := by decide +kernel
theorem dX8_readLine_58 : decode cX8_readLine 58 = .ok (.goto 4, 3) := by decide +kernel
theorem dX8_readLine_61 : decode cX8_readLine 61 = .ok (.iconst 0, 1) := by decide +kernel
theorem dX8_readLine_62 : decode cX8_readLine 62 = .ok (.iconst 5, 1) := by decide +kernel
theorem dX8_readLine_63 : decode cX8_readLine 63 = .ok (.invokevirtual 117, 3) := by decide +kernel
theorem dX8_readLine_66 : decode cX8_readLine 66 = .ok (.aload_n 0, 1) := by decide +kernel
theorem dX8_readLine_67 : decode cX8_readLine 67 = .ok (.iload_n 1, 1) := by decide +kernel
theorem dX8_readLine_68 : decode cX8_readLine 68 = .ok (.iconst 4, 1) := by decide +kernel
theorem dX8_readLine_69 : decode cX8_readLine 69 = .ok (.if_icmp .eq 25, 3) := by decide +kernel
theorem dX8_readLine_72 : decode cX8_readLine 72 = .ok (.iload_n 1, 1) := by decide +kernel
theorem dX8_readLine_73 : decode cX8_readLine 73 = .ok (.iconst 5, 1) := by decide +kernel
theorem dX8_readLine_74 : decode cX8_readLine 74 = .ok (.if_icmp .ne 13, 3) := by decide +kernel
theorem dX8_readLine_77 : decode cX8_readLine 77 = .ok (.aload_n 0, 1) := by decide +kernel
theorem dX8_readLine_78 : decode cX8_readLine 78 = .ok (.getfield 66, 3) := by decide +kernel
theorem dX8_readLine_81 : decode cX8_readLine 81 = .ok (.ifCond .eq 13, 3) := by decide +kernel
theorem dX8_readLine_84 : decode cX8_readLine 84 = .ok (.goto 14, 3) := by decide +kernel
theorem dX8_readLine_87 : decode cX8_readLine 87 = .ok (.aload_n 0, 1) := by decide +kernel
theorem dX8_readLine_88 : decode cX8_readLine 88 = .ok (.getfield 70, 3) := by decide +kernel
theorem dX8_readLine_91 : decode cX8_readLine 91 = .ok (.ifCond .ne 7, 3) := by decide +kernel
theorem dX8_readLine_94 : decode cX8_readLine 94 = .ok (.iconst 1, 1) := by decide +kernel
theorem dX8_readLine_95 : decode cX8_readLine 95 = .ok (.goto 4, 3) := by decide +kernel
theorem dX8_readLine_98 : decode cX8_readLine 98 = .ok (.iconst 0, 1) := by decide +kernel
theorem dX8_readLine_99 : decode cX8_readLine 99 = .ok (.iconst 4, 1) := by decide +kernel
theorem dX8_readLine_100 : decode cX8_readLine 100 = .ok (.invokevirtual 117, 3) := by decide +kernel
theorem dX8_readLine_103 : decode cX8_readLine 103 = .ok (.aload_n 0, 1) := by decide +kernel
theorem dX8_readLine_104 : decode cX8_readLine 104 = .ok (.aload_n 0, 1) := by decide +kernel
theorem dX8_readLine_105 : decode cX8_readLine 105 = .ok (.getfield 66, 3) := by decide +kernel
theorem dX8_readLine_108 : decode cX8_readLine 108 = .ok (.ifCond .ne 8, 3) := by decide +kernel
theorem dX8_readLine_111 : decode cX8_readLine 111 = .ok (.iload_n 1, 1) := by decide +kernel
theorem dX8_readLine_112 : decode cX8_readLine 112 = .ok (.iconst 5, 1) := by decide +kernel
theorem dX8_readLine_113 : decode cX8_readLine 113 = .ok (.if_icmp .ne 7, 3) := by decide +kernel
theorem dX8_readLine_116 : decode cX8_readLine 116 = .ok (.iconst 1, 1) := by decide +kernel
theorem dX8_readLine_117 : decode cX8_readLine 117 = .ok (.goto 4, 3) := by decide +kernel
theorem dX8_readLine_120 : decode cX8_readLine 120 = .ok (.iconst 0, 1) := by decide +kernel
theorem dX8_readLine_121 : decode cX8_readLine 121 = .ok (.putfield 66, 3) := by decide +kernel
theorem dX8_readLine_124 : decode cX8_readLine 124 = .ok (.aload_n 0, 1) := by decide +kernel
theorem dX8_readLine_125 : decode cX8_readLine 125 = .ok (.aload_n 0, 1) := by decide +kernel
theorem dX8_readLine_126 : decode cX8_readLine 126 = .ok (.getfield 70, 3) := by decide +kernel
theorem dX8_readLine_129 : decode cX8_readLine 129 = .ok (.ifCond .ne 8, 3) := by decide +kernel
theorem dX8_readLine_132 : decode cX8_readLine 132 = .ok (.iload_n 1, 1) := by decide +kernel
theorem dX8_readLine_133 : decode cX8_readLine 133 = .ok (.iconst 4, 1) := by decide +kernel
theorem dX8_readLine_134 : decode cX8_readLine 134 = .ok (.if_icmp .ge 7, 3) := by decide +kernel
theorem dX8_readLine_137 : decode cX8_readLine 137 = .ok (.iconst 1, 1) := by decide +kernel
theorem dX8_readLine_138 : decode cX8_readLine 138 = .ok (.goto 4, 3) := by decide +kernel
theorem dX8_readLine_141 : decode cX8_readLine 141 = .ok (.iconst 0, 1) := by decide +kernel
theorem dX8_readLine_142 : decode cX8_readLine 142 = .ok (.putfield 70, 3) := by decide +kernel
theorem dX8_readLine_145 : decode cX8_readLine 145 = .ok (.aload_n 0, 1) := by decide +kernel
theorem dX8_readLine_146 : decode cX8_readLine 146 = .ok (.invokevirtual 121, 3) := by decide +kernel
theorem dX8_readLine_149 : decode cX8_readLine 149 = .ok (.aload_n 0, 1) := by decide +kernel
theorem dX8_readLine_150 : decode cX8_readLine 150 = .ok (.getfield 83, 3) := by decide +kernel
theorem dX8_readLine_153 : decode cX8_readLine 153 = .ok (.ifCond .le 4, 3) := by decide +kernel
theorem dX8_readLine_156 : decode cX8_readLine 156 = .ok (.return_, 1) := by decide +kernel
theorem dX8_readLine_157 : decode cX8_readLine 157 = .ok (.aload_n 0, 1) := by decide +kernel
theorem dX8_readLine_158 : decode cX8_readLine 158 = .ok (.iload_n 1, 1) := by decide +kernel
theorem dX8_readLine_159 : decode cX8_readLine 159 = .ok (.invokevirtual 132, 3) := by decide +kernel
theorem dX8_readLine_162 : decode cX8_readLine 162 = .ok (.aload_n 0, 1) := by decide +kernel
theorem dX8_readLine_163 : decode cX8_readLine 163 = .ok (.getfield 83, 3) := by decide +kernel
theorem dX8_readLine_166 : decode cX8_readLine 166 = .ok (.ifCond .ne 21, 3) := by decide +kernel
theorem dX8_readLine_169 : decode cX8_readLine 169 = .ok (.aload_n 0, 1) := by decide +kernel
theorem dX8_readLine_170 : decode cX8_readLine 170 = .ok (.aload_n 0, 1) := by decide +kernel
theorem dX8_readLine_171 : decode cX8_readLine 171 = .ok (.getfield 103, 3) := by decide +kernel
theorem dX8_readLine_174 : decode cX8_readLine 174 = .ok (.iconst 3, 1) := by decide +kernel
theorem dX8_readLine_175 : decode cX8_readLine 175 = .ok (.if_icmp .ne 7, 3) := by decide +kernel
theorem dX8_readLine_178 : decode cX8_readLine 178 = .ok (.iconst 1, 1) := by decide +kernel
theorem dX8_readLine_179 : decode cX8_readLine 179 = .ok (.goto 4, 3) := by decide +kernel
theorem dX8_readLine_182 : decode cX8_readLine 182 = .ok (.iconst 0, 1) := by decide +kernel
theorem dX8_readLine_183 : decode cX8_readLine 183 = .ok (.iconst 2, 1) := by decide +kernel
theorem dX8_readLine_184 : decode cX8_readLine 184 = .ok (.invokevirtual 117, 3) := by decide +kernel
theorem dX8_readLine_187 : decode cX8_readLine 187 = .ok (.aload_n 0, 1) := by decide +kernel
theorem dX8_readLine_188 : decode cX8_readLine 188 = .ok (.invokevirtual 121, 3) := by decide +kernel
theorem dX8_readLine_191 : decode cX8_readLine 191 = .ok (.return_, 1) := by decide +kernel
theorem dX8_text_0 : decode cX8_text 0 = .ok (.iconst 0, 1) := by decide +kernel
theorem dX8_text_1 : decode cX8_text 1 = .ok (.istore_n 1, 1) := by decide +kernel
theorem dX8_text_2 : decode cX8_text 2 = .ok (.aload_n 0, 1) := by decide +kernel
theorem dX8_text_3 : decode cX8_text 3 = .ok (.iconst 0, 1) := by decide +kernel
theorem dX8_text_4 : decode cX8_text 4 = .ok (.putfield 83, 3) := by decide +kernel
theorem dX8_text_7 : decode cX8_text 7 = .ok (.aload_n 0, 1) := by decide +kernel
theorem dX8_text_8 : decode cX8_text 8 = .ok (.iconst 0, 1) := by decide +kernel
theorem dX8_text_9 : decode cX8_text 9 = .ok (.putfield 92, 3) := by decide +kernel
theorem dX8_text_12 : decode cX8_text 12 = .ok (.aload_n 0, 1) := by decide +kernel
theorem dX8_text_13 : decode cX8_text 13 = .ok (.invokevirtual 60, 3) := by decide +kernel
theorem dX8_text_16 : decode cX8_text 16 = .ok (.aload_n 0, 1) := by decide +kernel
theorem dX8_text_17 : decode cX8_text 17 = .ok (.invokevirtual 121, 3) := by decide +kernel
theorem dX8_text_20 : decode cX8_text 20 = .ok (.aload_n 0, 1) := by decide +kernel
theorem dX8_text_21 : decode cX8_text 21 = .ok (.getfield 83, 3) := by decide +kernel
theorem dX8_text_24 : decode cX8_text 24 = .ok (.ifCond .ne 20, 3) := by decide +kernel
theorem dX8_text_27 : decode cX8_text 27 = .ok (.aload_n 0, 1) := by decide +kernel
theorem dX8_text_28 : decode cX8_text 28 = .ok (.getfield 103, 3) := by decide +kernel
theorem dX8_text_31 : decode cX8_text 31 = .ok (.ifCond .eq 13, 3) := by decide +kernel
theorem dX8_text_34 : decode cX8_text 34 = .ok (.aload_n 0, 1) := by decide +kernel
theorem dX8_text_35 : decode cX8_text 35 = .ok (.invokevirtual 136, 3) := by decide +kernel
theorem dX8_text_38 : decode cX8_text 38 = .ok (.iinc 1 1, 3) := by decide +kernel
theorem dX8_text_41 : decode cX8_text 41 = .ok (.goto (-21), 3) := by decide +kernel
theorem dX8_text_44 : decode cX8_text 44 = .ok (.aload_n 0, 1) := by decide +kernel
theorem dX8_text_45 : decode cX8_text 45 = .ok (.iconst 0, 1) := by decide +kernel
theorem dX8_text_46 : decode cX8_text 46 = .ok (.putfield 79, 3) := by decide +kernel
theorem dX8_text_49 : decode cX8_text 49 = .ok (.aload_n 0, 1) := by decide +kernel
theorem dX8_text_50 : decode cX8_text 50 = .ok (.getfield 83, 3) := by decide +kernel
theorem dX8_text_53 : decode cX8_text 53 = .ok (.ifCond .le 11, 3) := by decide +kernel
theorem dX8_text_56 : decode cX8_text 56 = .ok (.bipush (-10), 2) := by decide +kernel
theorem dX8_text_58 : decode cX8_text 58 = .ok (.aload_n 0, 1) := by decide +kernel
theorem dX8_text_59 : decode cX8_text 59 = .ok (.getfield 89, 3) := by decide +kernel
theorem dX8_text_62 : decode cX8_text 62 = .ok (.isub, 1) := by decide +kernel
theorem dX8_text_63 : decode cX8_text 63 = .ok (.ireturn, 1) := by decide +kernel
theorem dX8_text_64 : decode cX8_text 64 = .ok (.aload_n 0, 1) := by decide +kernel
theorem dX8_text_65 : decode cX8_text 65 = .ok (.invokevirtual 63, 3) := by decide +kernel
theorem dX8_text_68 : decode cX8_text 68 = .ok (.iload_n 1, 1) := by decide +kernel
theorem dX8_text_69 : decode cX8_text 69 = .ok (.ireturn, 1) := by decide +kernel
theorem dX8_fault_0 : decode cX8_fault 0 = .ok (.aload_n 0, 1) := by decide +kernel
theorem dX8_fault_1 : decode cX8_fault 1 = .ok (.getfield 83, 3) := by decide +kernel
theorem dX8_fault_4 : decode cX8_fault 4 = .ok (.ireturn, 1) := by decide +kernel
theorem dX8_isHeir_0 : decode cX8_isHeir 0 = .ok (.iload_n 1, 1) := by decide +kernel
theorem dX8_isHeir_1 : decode cX8_isHeir 1 = .ok (.i2l, 1) := by decide +kernel
theorem dX8_isHeir_2 : decode cX8_isHeir 2 = .ok (.lconst 0, 1) := by decide +kernel
theorem dX8_isHeir_3 : decode cX8_isHeir 3 = .ok (.aload_n 0, 1) := by decide +kernel
theorem dX8_isHeir_4 : decode cX8_isHeir 4 = .ok (.getfield 7, 3) := by decide +kernel
theorem dX8_isHeir_7 : decode cX8_isHeir 7 = .ok (.iconst 1, 1) := by decide +kernel
theorem dX8_isHeir_8 : decode cX8_isHeir 8 = .ok (.iaload, 1) := by decide +kernel
theorem dX8_isHeir_9 : decode cX8_isHeir 9 = .ok (.iconst 1, 1) := by decide +kernel
theorem dX8_isHeir_10 : decode cX8_isHeir 10 = .ok (.isub, 1) := by decide +kernel
theorem dX8_isHeir_11 : decode cX8_isHeir 11 = .ok (.i2l, 1) := by decide +kernel
theorem dX8_isHeir_12 : decode cX8_isHeir 12 = .ok (.invokestatic 75, 3) := by decide +kernel
theorem dX8_isHeir_15 : decode cX8_isHeir 15 = .ok (.ireturn, 1) := by decide +kernel
theorem dX8_isKind_0 : decode cX8_isKind 0 = .ok (.iload_n 0, 1) := by decide +kernel
theorem dX8_isKind_1 : decode cX8_isKind 1 = .ok (.i2l, 1) := by decide +kernel
theorem dX8_isKind_2 : decode cX8_isKind 2 = .ok (.lconst 0, 1) := by decide +kernel
theorem dX8_isKind_3 : decode cX8_isKind 3 = .ok (.ldc2_w 139, 3) := by decide +kernel
theorem dX8_isKind_6 : decode cX8_isKind 6 = .ok (.invokestatic 75, 3) := by decide +kernel
theorem dX8_isKind_9 : decode cX8_isKind 9 = .ok (.ireturn, 1) := by decide +kernel
theorem dX8_isPart_0 : decode cX8_isPart 0 = .ok (.iload_n 0, 1) := by decide +kernel
theorem dX8_isPart_1 : decode cX8_isPart 1 = .ok (.i2l, 1) := by decide +kernel
theorem dX8_isPart_2 : decode cX8_isPart 2 = .ok (.lconst 0, 1) := by decide +kernel
theorem dX8_isPart_3 : decode cX8_isPart 3 = .ok (.lconst 1, 1) := by decide +kernel
theorem dX8_isPart_4 : decode cX8_isPart 4 = .ok (.invokestatic 75, 3) := by decide +kernel
theorem dX8_isPart_7 : decode cX8_isPart 7 = .ok (.ireturn, 1) := by decide +kernel
theorem dX8_reckons_0 : decode cX8_reckons 0 = .ok (.aload_n 0, 1) := by decide +kernel
theorem dX8_reckons_1 : decode cX8_reckons 1 = .ok (.lconst 1, 1) := by decide +kernel
theorem dX8_reckons_2 : decode cX8_reckons 2 = .ok (.putfield 141, 3) := by decide +kernel
theorem dX8_reckons_5 : decode cX8_reckons 5 = .ok (.aload_n 0, 1) := by decide +kernel
theorem dX8_reckons_6 : decode cX8_reckons 6 = .ok (.lconst 0, 1) := by decide +kernel
theorem dX8_reckons_7 : decode cX8_reckons 7 = .ok (.putfield 145, 3) := by decide +kernel
theorem dX8_reckons_10 : decode cX8_reckons 10 = .ok (.iconst 0, 1) := by decide +kernel
theorem dX8_reckons_11 : decode cX8_reckons 11 = .ok (.istore_n 1, 1) := by decide +kernel
theorem dX8_reckons_12 : decode cX8_reckons 12 = .ok (.iload_n 1, 1) := by decide +kernel
theorem dX8_reckons_13 : decode cX8_reckons 13 = .ok (.aload_n 0, 1) := by decide +kernel
theorem dX8_reckons_14 : decode cX8_reckons 14 = .ok (.getfield 13, 3) := by decide +kernel
theorem dX8_reckons_17 : decode cX8_reckons 17 = .ok (.iconst 1, 1) := by decide +kernel
theorem dX8_reckons_18 : decode cX8_reckons 18 = .ok (.iaload, 1) := by decide +kernel
theorem dX8_reckons_19 : decode cX8_reckons 19 = .ok (.if_icmp .ge 31, 3) := by decide +kernel
theorem dX8_reckons_22 : decode cX8_reckons 22 = .ok (.aload_n 0, 1) := by decide +kernel
theorem dX8_reckons_23 : decode cX8_reckons 23 = .ok (.dup, 1) := by decide +kernel
theorem dX8_reckons_24 : decode cX8_reckons 24 = .ok (.getfield 141, 3) := by decide +kernel
theorem dX8_reckons_27 : decode cX8_reckons 27 = .ok (.aload_n 0, 1) := by decide +kernel
theorem dX8_reckons_28 : decode cX8_reckons 28 = .ok (.getfield 13, 3) := by decide +kernel
theorem dX8_reckons_31 : decode cX8_reckons 31 = .ok (.iconst 3, 1) := by decide +kernel
theorem dX8_reckons_32 : decode cX8_reckons 32 = .ok (.iconst 2, 1) := by decide +kernel
theorem dX8_reckons_33 : decode cX8_reckons 33 = .ok (.iload_n 1, 1) := by decide +kernel
theorem dX8_reckons_34 : decode cX8_reckons 34 = .ok (.imul, 1) := by decide +kernel
theorem dX8_reckons_35 : decode cX8_reckons 35 = .ok (.iadd, 1) := by decide +kernel
theorem dX8_reckons_36 : decode cX8_reckons 36 = .ok (.iconst 1, 1) := by decide +kernel
theorem dX8_reckons_37 : decode cX8_reckons 37 = .ok (.iadd, 1) := by decide +kernel
theorem dX8_reckons_38 : decode cX8_reckons 38 = .ok (.iaload, 1) := by decide +kernel
theorem dX8_reckons_39 : decode cX8_reckons 39 = .ok (.i2l, 1) := by decide +kernel
theorem dX8_reckons_40 : decode cX8_reckons 40 = .ok (.lmul, 1) := by decide +kernel
theorem dX8_reckons_41 : decode cX8_reckons 41 = .ok (.putfield 141, 3) := by decide +kernel
theorem dX8_reckons_44 : decode cX8_reckons 44 = .ok (.iinc 1 1, 3) := by decide +kernel
theorem dX8_reckons_47 : decode cX8_reckons 47 = .ok (.goto (-35), 3) := by decide +kernel
theorem dX8_reckons_50 : decode cX8_reckons 50 = .ok (.iconst 0, 1) := by decide +kernel
theorem dX8_reckons_51 : decode cX8_reckons 51 = .ok (.istore_n 1, 1) := by decide +kernel
theorem dX8_reckons_52 : decode cX8_reckons 52 = .ok (.iload_n 1, 1) := by decide +kernel
theorem dX8_reckons_53 : decode cX8_reckons 53 = .ok (.aload_n 0, 1) := by decide +kernel
theorem dX8_reckons_54 : decode cX8_reckons 54 = .ok (.getfield 13, 3) := by decide +kernel
theorem dX8_reckons_57 : decode cX8_reckons 57 = .ok (.iconst 1, 1) := by decide +kernel
theorem dX8_reckons_58 : decode cX8_reckons 58 = .ok (.iaload, 1) := by decide +kernel
theorem dX8_reckons_59 : decode cX8_reckons 59 = .ok (.if_icmp .ge 60, 3) := by decide +kernel
theorem dX8_reckons_62 : decode cX8_reckons 62 = .ok (.aload_n 0, 1) := by decide +kernel
theorem dX8_reckons_63 : decode cX8_reckons 63 = .ok (.getfield 26, 3) := by decide +kernel
theorem dX8_reckons_66 : decode cX8_reckons 66 = .ok (.iload_n 1, 1) := by decide +kernel
theorem dX8_reckons_67 : decode cX8_reckons 67 = .ok (.aload_n 0, 1) := by decide +kernel
theorem dX8_reckons_68 : decode cX8_reckons 68 = .ok (.getfield 141, 3) := by decide +kernel
theorem dX8_reckons_71 : decode cX8_reckons 71 = .ok (.aload_n 0, 1) := by decide +kernel
theorem dX8_reckons_72 : decode cX8_reckons 72 = .ok (.getfield 13, 3) := by decide +kernel
theorem dX8_reckons_75 : decode cX8_reckons 75 = .ok (.iconst 3, 1) := by decide +kernel
theorem dX8_reckons_76 : decode cX8_reckons 76 = .ok (.iconst 2, 1) := by decide +kernel
theorem dX8_reckons_77 : decode cX8_reckons 77 = .ok (.iload_n 1, 1) := by decide +kernel
theorem dX8_reckons_78 : decode cX8_reckons 78 = .ok (.imul, 1) := by decide +kernel
theorem dX8_reckons_79 : decode cX8_reckons 79 = .ok (.iadd, 1) := by decide +kernel
theorem dX8_reckons_80 : decode cX8_reckons 80 = .ok (.iconst 1, 1) := by decide +kernel
theorem dX8_reckons_81 : decode cX8_reckons 81 = .ok (.iadd, 1) := by decide +kernel
theorem dX8_reckons_82 : decode cX8_reckons 82 = .ok (.iaload, 1) := by decide +kernel
theorem dX8_reckons_83 : decode cX8_reckons 83 = .ok (.i2l, 1) := by decide +kernel
theorem dX8_reckons_84 : decode cX8_reckons 84 = .ok (.ldiv, 1) := by decide +kernel
theorem dX8_reckons_85 : decode cX8_reckons 85 = .ok (.aload_n 0, 1) := by decide +kernel
theorem dX8_reckons_86 : decode cX8_reckons 86 = .ok (.getfield 13, 3) := by decide +kernel
theorem dX8_reckons_89 : decode cX8_reckons 89 = .ok (.iconst 3, 1) := by decide +kernel
theorem dX8_reckons_90 : decode cX8_reckons 90 = .ok (.iconst 2, 1) := by decide +kernel
theorem dX8_reckons_91 : decode cX8_reckons 91 = .ok (.iload_n 1, 1) := by decide +kernel
theorem dX8_reckons_92 : decode cX8_reckons 92 = .ok (.imul, 1) := by decide +kernel
theorem dX8_reckons_93 : decode cX8_reckons 93 = .ok (.iadd, 1) := by decide +kernel
theorem dX8_reckons_94 : decode cX8_reckons 94 = .ok (.iaload, 1) := by decide +kernel
theorem dX8_reckons_95 : decode cX8_reckons 95 = .ok (.i2l, 1) := by decide +kernel
theorem dX8_reckons_96 : decode cX8_reckons 96 = .ok (.lmul, 1) := by decide +kernel
theorem dX8_reckons_97 : decode cX8_reckons 97 = .ok (.lastore, 1) := by decide +kernel
theorem dX8_reckons_98 : decode cX8_reckons 98 = .ok (.aload_n 0, 1) := by decide +kernel
theorem dX8_reckons_99 : decode cX8_reckons 99 = .ok (.dup, 1) := by decide +kernel
theorem dX8_reckons_100 : decode cX8_reckons 100 = .ok (.getfield 145, 3) := by decide +kernel
theorem dX8_reckons_103 : decode cX8_reckons 103 = .ok (.aload_n 0, 1) := by decide +kernel
theorem dX8_reckons_104 : decode cX8_reckons 104 = .ok (.getfield 26, 3) := by decide +kernel
theorem dX8_reckons_107 : decode cX8_reckons 107 = .ok (.iload_n 1, 1) := by decide +kernel
theorem dX8_reckons_108 : decode cX8_reckons 108 = .ok (.laload, 1) := by decide +kernel
theorem dX8_reckons_109 : decode cX8_reckons 109 = .ok (.ladd, 1) := by decide +kernel
theorem dX8_reckons_110 : decode cX8_reckons 110 = .ok (.putfield 145, 3) := by decide +kernel
theorem dX8_reckons_113 : decode cX8_reckons 113 = .ok (.iinc 1 1, 3) := by decide +kernel
theorem dX8_reckons_116 : decode cX8_reckons 116 = .ok (.goto (-64), 3) := by decide +kernel
theorem dX8_reckons_119 : decode cX8_reckons 119 = .ok (.return_, 1) := by decide +kernel
theorem dX8_starts_0 : decode cX8_starts 0 = .ok (.iconst 0, 1) := by decide +kernel
theorem dX8_starts_1 : decode cX8_starts 1 = .ok (.istore_n 1, 1) := by decide +kernel
theorem dX8_starts_2 : decode cX8_starts 2 = .ok (.iload_n 1, 1) := by decide +kernel
theorem dX8_starts_3 : decode cX8_starts 3 = .ok (.bipush 26, 2) := by decide +kernel
theorem dX8_starts_5 : decode cX8_starts 5 = .ok (.if_icmp .ge 21, 3) := by decide +kernel
theorem dX8_starts_8 : decode cX8_starts 8 = .ok (.aload_n 0, 1) := by decide +kernel
theorem dX8_starts_9 : decode cX8_starts 9 = .ok (.getfield 13, 3) := by decide +kernel
theorem dX8_starts_12 : decode cX8_starts 12 = .ok (.iload_n 1, 1) := by decide +kernel
theorem dX8_starts_13 : decode cX8_starts 13 = .ok (.aload_n 0, 1) := by decide +kernel
theorem dX8_starts_14 : decode cX8_starts 14 = .ok (.getfield 7, 3) := by decide +kernel
theorem dX8_starts_17 : decode cX8_starts 17 = .ok (.iload_n 1, 1) := by decide +kernel
theorem dX8_starts_18 : decode cX8_starts 18 = .ok (.iaload, 1) := by decide +kernel
theorem dX8_starts_19 : decode cX8_starts 19 = .ok (.iastore, 1) := by decide +kernel
theorem dX8_starts_20 : decode cX8_starts 20 = .ok (.iinc 1 1, 3) := by decide +kernel
theorem dX8_starts_23 : decode cX8_starts 23 = .ok (.goto (-21), 3) := by decide +kernel
theorem dX8_starts_26 : decode cX8_starts 26 = .ok (.aload_n 0, 1) := by decide +kernel
theorem dX8_starts_27 : decode cX8_starts 27 = .ok (.invokevirtual 148, 3) := by decide +kernel
theorem dX8_starts_30 : decode cX8_starts 30 = .ok (.return_, 1) := by decide +kernel
theorem dX8_givesTold_0 : decode cX8_givesTold 0 = .ok (.iload_n 1, 1) := by decide +kernel
theorem dX8_givesTold_1 : decode cX8_givesTold 1 = .ok (.istore_n 2, 1) := by decide +kernel
theorem dX8_givesTold_2 : decode cX8_givesTold 2 = .ok (.iconst 0, 1) := by decide +kernel
theorem dX8_givesTold_3 : decode cX8_givesTold 3 = .ok (.istore_n 3, 1) := by decide +kernel
theorem dX8_givesTold_4 : decode cX8_givesTold 4 = .ok (.iload_n 3, 1) := by decide +kernel
theorem dX8_givesTold_5 : decode cX8_givesTold 5 = .ok (.aload_n 0, 1) := by decide +kernel
theorem dX8_givesTold_6 : decode cX8_givesTold 6 = .ok (.getfield 13, 3) := by decide +kernel
theorem dX8_givesTold_9 : decode cX8_givesTold 9 = .ok (.iconst 1, 1) := by decide +kernel
theorem dX8_givesTold_10 : decode cX8_givesTold 10 = .ok (.iaload, 1) := by decide +kernel
theorem dX8_givesTold_11 : decode cX8_givesTold 11 = .ok (.if_icmp .ge 63, 3) := by decide +kernel
theorem dX8_givesTold_14 : decode cX8_givesTold 14 = .ok (.iload_n 1, 1) := by decide +kernel
theorem dX8_givesTold_15 : decode cX8_givesTold 15 = .ok (.aload_n 0, 1) := by decide +kernel
theorem dX8_givesTold_16 : decode cX8_givesTold 16 = .ok (.getfield 13, 3) := by decide +kernel
theorem dX8_givesTold_19 : decode cX8_givesTold 19 = .ok (.iconst 3, 1) := by decide +kernel
theorem dX8_givesTold_20 : decode cX8_givesTold 20 = .ok (.iconst 2, 1) := by decide +kernel
theorem dX8_givesTold_21 : decode cX8_givesTold 21 = .ok (.iload_n 3, 1) := by decide +kernel
theorem dX8_givesTold_22 : decode cX8_givesTold 22 = .ok (.imul, 1) := by decide +kernel
theorem dX8_givesTold_23 : decode cX8_givesTold 23 = .ok (.iadd, 1) := by decide +kernel
theorem dX8_givesTold_24 : decode cX8_givesTold 24 = .ok (.iaload, 1) := by decide +kernel
theorem dX8_givesTold_25 : decode cX8_givesTold 25 = .ok (.imul, 1) := by decide +kernel
theorem dX8_givesTold_26 : decode cX8_givesTold 26 = .ok (.aload_n 0, 1) := by decide +kernel
theorem dX8_givesTold_27 : decode cX8_givesTold 27 = .ok (.getfield 13, 3) := by decide +kernel
theorem dX8_givesTold_30 : decode cX8_givesTold 30 = .ok (.iconst 3, 1) := by decide +kernel
theorem dX8_givesTold_31 : decode cX8_givesTold 31 = .ok (.iconst 2, 1) := by decide +kernel
theorem dX8_givesTold_32 : decode cX8_givesTold 32 = .ok (.iload_n 3, 1) := by decide +kernel
theorem dX8_givesTold_33 : decode cX8_givesTold 33 = .ok (.imul, 1) := by decide +kernel
theorem dX8_givesTold_34 : decode cX8_givesTold 34 = .ok (.iadd, 1) := by decide +kernel
theorem dX8_givesTold_35 : decode cX8_givesTold 35 = .ok (.iconst 1, 1) := by decide +kernel
theorem dX8_givesTold_36 : decode cX8_givesTold 36 = .ok (.iadd, 1) := by decide +kernel
theorem dX8_givesTold_37 : decode cX8_givesTold 37 = .ok (.iaload, 1) := by decide +kernel
theorem dX8_givesTold_38 : decode cX8_givesTold 38 = .ok (.idiv, 1) := by decide +kernel
theorem dX8_givesTold_39 : decode cX8_givesTold 39 = .ok (.istore 4, 2) := by decide +kernel
theorem dX8_givesTold_41 : decode cX8_givesTold 41 = .ok (.aload_n 0, 1) := by decide +kernel
theorem dX8_givesTold_42 : decode cX8_givesTold 42 = .ok (.getfield 30, 3) := by decide +kernel
theorem dX8_givesTold_45 : decode cX8_givesTold 45 = .ok (.iload_n 3, 1) := by decide +kernel
theorem dX8_givesTold_46 : decode cX8_givesTold 46 = .ok (.iload 4, 2) := by decide +kernel
theorem dX8_givesTold_48 : decode cX8_givesTold 48 = .ok (.iload_n 2, 1) := by decide +kernel
theorem dX8_givesTold_49 : decode cX8_givesTold 49 = .ok (.if_icmp .ge 8, 3) := by decide +kernel
theorem dX8_givesTold_52 : decode cX8_givesTold 52 = .ok (.iload 4, 2) := by decide +kernel
theorem dX8_givesTold_54 : decode cX8_givesTold 54 = .ok (.goto 4, 3) := by decide +kernel
theorem dX8_givesTold_57 : decode cX8_givesTold 57 = .ok (.iload_n 2, 1) := by decide +kernel
theorem dX8_givesTold_58 : decode cX8_givesTold 58 = .ok (.iastore, 1) := by decide +kernel
theorem dX8_givesTold_59 : decode cX8_givesTold 59 = .ok (.iload_n 2, 1) := by decide +kernel
theorem dX8_givesTold_60 : decode cX8_givesTold 60 = .ok (.aload_n 0, 1) := by decide +kernel
theorem dX8_givesTold_61 : decode cX8_givesTold 61 = .ok (.getfield 30, 3) := by decide +kernel
theorem dX8_givesTold_64 : decode cX8_givesTold 64 = .ok (.iload_n 3, 1) := by decide +kernel
theorem dX8_givesTold_65 : decode cX8_givesTold 65 = .ok (.iaload, 1) := by decide +kernel
theorem dX8_givesTold_66 : decode cX8_givesTold 66 = .ok (.isub, 1) := by decide +kernel
theorem dX8_givesTold_67 : decode cX8_givesTold 67 = .ok (.istore_n 2, 1) := by decide +kernel
theorem dX8_givesTold_68 : decode cX8_givesTold 68 = .ok (.iinc 3 1, 3) := by decide +kernel
theorem dX8_givesTold_71 : decode cX8_givesTold 71 = .ok (.goto (-67), 3) := by decide +kernel
theorem dX8_givesTold_74 : decode cX8_givesTold 74 = .ok (.return_, 1) := by decide +kernel
theorem dX8_givesRests_0 : decode cX8_givesRests 0 = .ok (.iload_n 1, 1) := by decide +kernel
theorem dX8_givesRests_1 : decode cX8_givesRests 1 = .ok (.istore_n 2, 1) := by decide +kernel
theorem dX8_givesRests_2 : decode cX8_givesRests 2 = .ok (.iconst 0, 1) := by decide +kernel
theorem dX8_givesRests_3 : decode cX8_givesRests 3 = .ok (.istore_n 3, 1) := by decide +kernel
theorem dX8_givesRests_4 : decode cX8_givesRests 4 = .ok (.iload_n 3, 1) := by decide +kernel
theorem dX8_givesRests_5 : decode cX8_givesRests 5 = .ok (.aload_n 0, 1) := by decide +kernel
theorem dX8_givesRests_6 : decode cX8_givesRests 6 = .ok (.getfield 13, 3) := by decide +kernel
theorem dX8_givesRests_9 : decode cX8_givesRests 9 = .ok (.iconst 1, 1) := by decide +kernel
theorem dX8_givesRests_10 : decode cX8_givesRests 10 = .ok (.iaload, 1) := by decide +kernel
theorem dX8_givesRests_11 : decode cX8_givesRests 11 = .ok (.if_icmp .ge 46, 3) := by decide +kernel
theorem dX8_givesRests_14 : decode cX8_givesRests 14 = .ok (.aload_n 0, 1) := by decide +kernel
theorem dX8_givesRests_15 : decode cX8_givesRests 15 = .ok (.getfield 30, 3) := by decide +kernel
theorem dX8_givesRests_18 : decode cX8_givesRests 18 = .ok (.iload_n 3, 1) := by decide +kernel
theorem dX8_givesRests_19 : decode cX8_givesRests 19 = .ok (.iload_n 1, 1) := by decide +kernel
theorem dX8_givesRests_20 : decode cX8_givesRests 20 = .ok (.i2l, 1) := by decide +kernel
theorem dX8_givesRests_21 : decode cX8_givesRests 21 = .ok (.aload_n 0, 1) := by decide +kernel
theorem dX8_givesRests_22 : decode cX8_givesRests 22 = .ok (.getfield 26, 3) := by decide +kernel
theorem dX8_givesRests_25 : decode cX8_givesRests 25 = .ok (.iload_n 3, 1) := by decide +kernel
theorem dX8_givesRests_26 : decode cX8_givesRests 26 = .ok (.laload, 1) := by decide +kernel
theorem dX8_givesRests_27 : decode cX8_givesRests 27 = .ok (.lmul, 1) := by decide +kernel
theorem dX8_givesRests_28 : decode cX8_givesRests 28 = .ok (.aload_n 0, 1) := by decide +kernel
theorem dX8_givesRests_29 : decode cX8_givesRests 29 = .ok (.getfield 145, 3) := by decide +kernel
theorem dX8_givesRests_32 : decode cX8_givesRests 32 = .ok (.ldiv, 1) := by decide +kernel
theorem dX8_givesRests_33 : decode cX8_givesRests 33 = .ok (.l2i, 1) := by decide +kernel
theorem dX8_givesRests_34 : decode cX8_givesRests 34 = .ok (.iastore, 1) := by decide +kernel
theorem dX8_givesRests_35 : decode cX8_givesRests 35 = .ok (.aload_n 0, 1) := by decide +kernel
theorem dX8_givesRests_36 : decode cX8_givesRests 36 = .ok (.getfield 33, 3) := by decide +kernel
theorem dX8_givesRests_39 : decode cX8_givesRests 39 = .ok (.iload_n 3, 1) := by decide +kernel
theorem dX8_givesRests_40 : decode cX8_givesRests 40 = .ok (.iconst 0, 1) := by decide +kernel
theorem dX8_givesRests_41 : decode cX8_givesRests 41 = .ok (.bastore, 1) := by decide +kernel
theorem dX8_givesRests_42 : decode cX8_givesRests 42 = .ok (.iload_n 2, 1) := by decide +kernel
theorem dX8_givesRests_43 : decode cX8_givesRests 43 = .ok (.aload_n 0, 1) := by decide +kernel
theorem dX8_givesRests_44 : decode cX8_givesRests 44 = .ok (.getfield 30, 3) := by decide +kernel
theorem dX8_givesRests_47 : decode cX8_givesRests 47 = .ok (.iload_n 3, 1) := by decide +kernel
theorem dX8_givesRests_48 : decode cX8_givesRests 48 = .ok (.iaload, 1) := by decide +kernel
theorem dX8_givesRests_49 : decode cX8_givesRests 49 = .ok (.isub, 1) := by decide +kernel
theorem dX8_givesRests_50 : decode cX8_givesRests 50 = .ok (.istore_n 2, 1) := by decide +kernel
theorem dX8_givesRests_51 : decode cX8_givesRests 51 = .ok (.iinc 3 1, 3) := by decide +kernel
theorem dX8_givesRests_54 : decode cX8_givesRests 54 = .ok (.goto (-50), 3) := by decide +kernel
theorem dX8_givesRests_57 : decode cX8_givesRests 57 = .ok (.iload_n 2, 1) := by decide +kernel
theorem dX8_givesRests_58 : decode cX8_givesRests 58 = .ok (.ifCond .le 117, 3) := by decide +kernel
theorem dX8_givesRests_61 : decode cX8_givesRests 61 = .ok (.bipush (-4), 2) := by decide +kernel
theorem dX8_givesRests_63 : decode cX8_givesRests 63 = .ok (.istore_n 3, 1) := by decide +kernel
theorem dX8_givesRests_64 : decode cX8_givesRests 64 = .ok (.iconst 0, 1) := by decide +kernel
theorem dX8_givesRests_65 : decode cX8_givesRests 65 = .ok (.istore 4, 2) := by decide +kernel
theorem dX8_givesRests_67 : decode cX8_givesRests 67 = .ok (.iload 4, 2) := by decide +kernel
theorem dX8_givesRests_69 : decode cX8_givesRests 69 = .ok (.aload_n 0, 1) := by decide +kernel
theorem dX8_givesRests_70 : decode cX8_givesRests 70 = .ok (.getfield 13, 3) := by decide +kernel
theorem dX8_givesRests_73 : decode cX8_givesRests 73 = .ok (.iconst 1, 1) := by decide +kernel
theorem dX8_givesRests_74 : decode cX8_givesRests 74 = .ok (.iaload, 1) := by decide +kernel
theorem dX8_givesRests_75 : decode cX8_givesRests 75 = .ok (.if_icmp .ge 77, 3) := by decide +kernel
theorem dX8_givesRests_78 : decode cX8_givesRests 78 = .ok (.aload_n 0, 1) := by decide +kernel
theorem dX8_givesRests_79 : decode cX8_givesRests 79 = .ok (.getfield 33, 3) := by decide +kernel
theorem dX8_givesRests_82 : decode cX8_givesRests 82 = .ok (.iload 4, 2) := by decide +kernel
theorem dX8_givesRests_84 : decode cX8_givesRests 84 = .ok (.baload, 1) := by decide +kernel
theorem dX8_givesRests_85 : decode cX8_givesRests 85 = .ok (.ifCond .ne 46, 3) := by decide +kernel
theorem dX8_givesRests_88 : decode cX8_givesRests 88 = .ok (.iload_n 3, 1) := by decide +kernel
theorem dX8_givesRests_89 : decode cX8_givesRests 89 = .ok (.bipush (-4), 2) := by decide +kernel
theorem dX8_givesRests_91 : decode cX8_givesRests 91 = .ok (.if_icmp .eq 36, 3) := by decide +kernel
theorem dX8_givesRests_94 : decode cX8_givesRests 94 = .ok (.iload_n 1, 1) := by decide +kernel
theorem dX8_givesRests_95 : decode cX8_givesRests 95 = .ok (.i2l, 1) := by decide +kernel
theorem dX8_givesRests_96 : decode cX8_givesRests 96 = .ok (.aload_n 0, 1) := by decide +kernel
theorem dX8_givesRests_97 : decode cX8_givesRests 97 = .ok (.getfield 26, 3) := by decide +kernel
theorem dX8_givesRests_100 : decode cX8_givesRests 100 = .ok (.iload 4, 2) := by decide +kernel
theorem dX8_givesRests_102 : decode cX8_givesRests 102 = .ok (.laload, 1) := by decide +kernel
theorem dX8_givesRests_103 : decode cX8_givesRests 103 = .ok (.lmul, 1) := by decide +kernel
theorem dX8_givesRests_104 : decode cX8_givesRests 104 = .ok (.aload_n 0, 1) := by decide +kernel
theorem dX8_givesRests_105 : decode cX8_givesRests 105 = .ok (.getfield 145, 3) := by decide +kernel
theorem dX8_givesRests_108 : decode cX8_givesRests 108 = .ok (.lrem, 1) := by decide +kernel
theorem dX8_givesRests_109 : decode cX8_givesRests 109 = .ok (.iload_n 1, 1) := by decide +kernel
theorem dX8_givesRests_110 : decode cX8_givesRests 110 = .ok (.i2l, 1) := by decide +kernel
theorem dX8_givesRests_111 : decode cX8_givesRests 111 = .ok (.aload_n 0, 1) := by decide +kernel
theorem dX8_givesRests_112 : decode cX8_givesRests 112 = .ok (.getfield 26, 3) := by decide +kernel
theorem dX8_givesRests_115 : decode cX8_givesRests 115 = .ok (.iload_n 3, 1) := by decide +kernel
theorem dX8_givesRests_116 : decode cX8_givesRests 116 = .ok (.laload, 1) := by decide +kernel
theorem dX8_givesRests_117 : decode cX8_givesRests 117 = .ok (.lmul, 1) := by decide +kernel
theorem dX8_givesRests_118 : decode cX8_givesRests 118 = .ok (.aload_n 0, 1) := by decide +kernel
theorem dX8_givesRests_119 : decode cX8_givesRests 119 = .ok (.getfield 145, 3) := by decide +kernel
theorem dX8_givesRests_122 : decode cX8_givesRests 122 = .ok (.lrem, 1) := by decide +kernel
theorem dX8_givesRests_123 : decode cX8_givesRests 123 = .ok (.lcmp, 1) := by decide +kernel
theorem dX8_givesRests_124 : decode cX8_givesRests 124 = .ok (.ifCond .le 7, 3) := by decide +kernel
theorem dX8_givesRests_127 : decode cX8_givesRests 127 = .ok (.iconst 1, 1) := by decide +kernel
theorem dX8_givesRests_128 : decode cX8_givesRests 128 = .ok (.goto 4, 3) := by decide +kernel
theorem dX8_givesRests_131 : decode cX8_givesRests 131 = .ok (.iconst 0, 1) := by decide +kernel
theorem dX8_givesRests_132 : decode cX8_givesRests 132 = .ok (.istore 5, 2) := by decide +kernel
theorem dX8_givesRests_134 : decode cX8_givesRests 134 = .ok (.iload 5, 2) := by decide +kernel
theorem dX8_givesRests_136 : decode cX8_givesRests 136 = .ok (.ifCond .eq 8, 3) := by decide +kernel
theorem dX8_givesRests_139 : decode cX8_givesRests 139 = .ok (.iload 4, 2) := by decide +kernel
theorem dX8_givesRests_141 : decode cX8_givesRests 141 = .ok (.goto 4, 3) := by decide +kernel
theorem dX8_givesRests_144 : decode cX8_givesRests 144 = .ok (.iload_n 3, 1) := by decide +kernel
theorem dX8_givesRests_145 : decode cX8_givesRests 145 = .ok (.istore_n 3, 1) := by decide +kernel
theorem dX8_givesRests_146 : decode cX8_givesRests 146 = .ok (.iinc 4 1, 3) := by decide +kernel
theorem dX8_givesRests_149 : decode cX8_givesRests 149 = .ok (.goto (-82), 3) := by decide +kernel
theorem dX8_givesRests_152 : decode cX8_givesRests 152 = .ok (.aload_n 0, 1) := by decide +kernel
theorem dX8_givesRests_153 : decode cX8_givesRests 153 = .ok (.getfield 33, 3) := by decide +kernel
theorem dX8_givesRests_156 : decode cX8_givesRests 156 = .ok (.iload_n 3, 1) := by decide +kernel
theorem dX8_givesRests_157 : decode cX8_givesRests 157 = .ok (.iconst 1, 1) := by decide +kernel
theorem dX8_givesRests_158 : decode cX8_givesRests 158 = .ok (.bastore, 1) := by decide +kernel
theorem dX8_givesRests_159 : decode cX8_givesRests 159 = .ok (.aload_n 0, 1) := by decide +kernel
theorem dX8_givesRests_160 : decode cX8_givesRests 160 = .ok (.getfield 30, 3) := by decide +kernel
theorem dX8_givesRests_163 : decode cX8_givesRests 163 = .ok (.iload_n 3, 1) := by decide +kernel
theorem dX8_givesRests_164 : decode cX8_givesRests 164 = .ok (.dup2, 1) := by decide +kernel
theorem dX8_givesRests_165 : decode cX8_givesRests 165 = .ok (.iaload, 1) := by decide +kernel
theorem dX8_givesRests_166 : decode cX8_givesRests 166 = .ok (.iconst 1, 1) := by decide +kernel
theorem dX8_givesRests_167 : decode cX8_givesRests 167 = .ok (.iadd, 1) := by decide +kernel
theorem dX8_givesRests_168 : decode cX8_givesRests 168 = .ok (.iastore, 1) := by decide +kernel
theorem dX8_givesRests_169 : decode cX8_givesRests 169 = .ok (.iinc 2 (-1), 3) := by decide +kernel
theorem dX8_givesRests_172 : decode cX8_givesRests 172 = .ok (.goto (-115), 3) := by decide +kernel
theorem dX8_givesRests_175 : decode cX8_givesRests 175 = .ok (.return_, 1) := by decide +kernel
theorem dX8_givesRow_0 : decode cX8_givesRow 0 = .ok (.iconst 0, 1) := by decide +kernel
theorem dX8_givesRow_1 : decode cX8_givesRow 1 = .ok (.istore_n 3, 1) := by decide +kernel
theorem dX8_givesRow_2 : decode cX8_givesRow 2 = .ok (.iload_n 3, 1) := by decide +kernel
theorem dX8_givesRow_3 : decode cX8_givesRow 3 = .ok (.iload_n 1, 1) := by decide +kernel
theorem dX8_givesRow_4 : decode cX8_givesRow 4 = .ok (.if_icmp .ge 96, 3) := by decide +kernel
theorem dX8_givesRow_7 : decode cX8_givesRow 7 = .ok (.iconst 0, 1) := by decide +kernel
theorem dX8_givesRow_8 : decode cX8_givesRow 8 = .ok (.istore 4, 2) := by decide +kernel
theorem dX8_givesRow_10 : decode cX8_givesRow 10 = .ok (.iconst 1, 1) := by decide +kernel
theorem dX8_givesRow_11 : decode cX8_givesRow 11 = .ok (.istore 5, 2) := by decide +kernel
theorem dX8_givesRow_13 : decode cX8_givesRow 13 = .ok (.iload 5, 2) := by decide +kernel
theorem dX8_givesRow_15 : decode cX8_givesRow 15 = .ok (.aload_n 0, 1) := by decide +kernel
theorem dX8_givesRow_16 : decode cX8_givesRow 16 = .ok (.getfield 13, 3) := by decide +kernel
theorem dX8_givesRow_19 : decode cX8_givesRow 19 = .ok (.iconst 1, 1) := by decide +kernel
theorem dX8_givesRow_20 : decode cX8_givesRow 20 = .ok (.iaload, 1) := by decide +kernel
theorem dX8_givesRow_21 : decode cX8_givesRow 21 = .ok (.if_icmp .ge 62, 3) := by decide +kernel
theorem dX8_givesRow_24 : decode cX8_givesRow 24 = .ok (.aload_n 0, 1) := by decide +kernel
theorem dX8_givesRow_25 : decode cX8_givesRow 25 = .ok (.getfield 26, 3) := by decide +kernel
theorem dX8_givesRow_28 : decode cX8_givesRow 28 = .ok (.iload 5, 2) := by decide +kernel
theorem dX8_givesRow_30 : decode cX8_givesRow 30 = .ok (.laload, 1) := by decide +kernel
theorem dX8_givesRow_31 : decode cX8_givesRow 31 = .ok (.iload_n 2, 1) := by decide +kernel
theorem dX8_givesRow_32 : decode cX8_givesRow 32 = .ok (.aload_n 0, 1) := by decide +kernel
theorem dX8_givesRow_33 : decode cX8_givesRow 33 = .ok (.getfield 30, 3) := by decide +kernel
theorem dX8_givesRow_36 : decode cX8_givesRow 36 = .ok (.iload 4, 2) := by decide +kernel
theorem dX8_givesRow_38 : decode cX8_givesRow 38 = .ok (.iaload, 1) := by decide +kernel
theorem dX8_givesRow_39 : decode cX8_givesRow 39 = .ok (.imul, 1) := by decide +kernel
theorem dX8_givesRow_40 : decode cX8_givesRow 40 = .ok (.iconst 1, 1) := by decide +kernel
theorem dX8_givesRow_41 : decode cX8_givesRow 41 = .ok (.iadd, 1) := by decide +kernel
theorem dX8_givesRow_42 : decode cX8_givesRow 42 = .ok (.i2l, 1) := by decide +kernel
theorem dX8_givesRow_43 : decode cX8_givesRow 43 = .ok (.lmul, 1) := by decide +kernel
theorem dX8_givesRow_44 : decode cX8_givesRow 44 = .ok (.aload_n 0, 1) := by decide +kernel
theorem dX8_givesRow_45 : decode cX8_givesRow 45 = .ok (.getfield 26, 3) := by decide +kernel
theorem dX8_givesRow_48 : decode cX8_givesRow 48 = .ok (.iload 4, 2) := by decide +kernel
theorem dX8_givesRow_50 : decode cX8_givesRow 50 = .ok (.laload, 1) := by decide +kernel
theorem dX8_givesRow_51 : decode cX8_givesRow 51 = .ok (.iload_n 2, 1) := by decide +kernel
theorem dX8_givesRow_52 : decode cX8_givesRow 52 = .ok (.aload_n 0, 1) := by decide +kernel
theorem dX8_givesRow_53 : decode cX8_givesRow 53 = .ok (.getfield 30, 3) := by decide +kernel
theorem dX8_givesRow_56 : decode cX8_givesRow 56 = .ok (.iload 5, 2) := by decide +kernel
theorem dX8_givesRow_58 : decode cX8_givesRow 58 = .ok (.iaload, 1) := by decide +kernel
theorem dX8_givesRow_59 : decode cX8_givesRow 59 = .ok (.imul, 1) := by decide +kernel
theorem dX8_givesRow_60 : decode cX8_givesRow 60 = .ok (.iconst 1, 1) := by decide +kernel
theorem dX8_givesRow_61 : decode cX8_givesRow 61 = .ok (.iadd, 1) := by decide +kernel
theorem dX8_givesRow_62 : decode cX8_givesRow 62 = .ok (.i2l, 1) := by decide +kernel
theorem dX8_givesRow_63 : decode cX8_givesRow 63 = .ok (.lmul, 1) := by decide +kernel
theorem dX8_givesRow_64 : decode cX8_givesRow 64 = .ok (.lcmp, 1) := by decide +kernel
theorem dX8_givesRow_65 : decode cX8_givesRow 65 = .ok (.ifCond .le 8, 3) := by decide +kernel
theorem dX8_givesRow_68 : decode cX8_givesRow 68 = .ok (.iload 5, 2) := by decide +kernel
theorem dX8_givesRow_70 : decode cX8_givesRow 70 = .ok (.goto 5, 3) := by decide +kernel
theorem dX8_givesRow_73 : decode cX8_givesRow 73 = .ok (.iload 4, 2) := by decide +kernel
theorem dX8_givesRow_75 : decode cX8_givesRow 75 = .ok (.istore 4, 2) := by decide +kernel
theorem dX8_givesRow_77 : decode cX8_givesRow 77 = .ok (.iinc 5 1, 3) := by decide +kernel
theorem dX8_givesRow_80 : decode cX8_givesRow 80 = .ok (.goto (-67), 3) := by decide +kernel
theorem dX8_givesRow_83 : decode cX8_givesRow 83 = .ok (.aload_n 0, 1) := by decide +kernel
theorem dX8_givesRow_84 : decode cX8_givesRow 84 = .ok (.getfield 30, 3) := by decide +kernel
theorem dX8_givesRow_87 : decode cX8_givesRow 87 = .ok (.iload 4, 2) := by decide +kernel
theorem dX8_givesRow_89 : decode cX8_givesRow 89 = .ok (.dup2, 1) := by decide +kernel
theorem dX8_givesRow_90 : decode cX8_givesRow 90 = .ok (.iaload, 1) := by decide +kernel
theorem dX8_givesRow_91 : decode cX8_givesRow 91 = .ok (.iconst 1, 1) := by decide +kernel
theorem dX8_givesRow_92 : decode cX8_givesRow 92 = .ok (.iadd, 1) := by decide +kernel
theorem dX8_givesRow_93 : decode cX8_givesRow 93 = .ok (.iastore, 1) := by decide +kernel
theorem dX8_givesRow_94 : decode cX8_givesRow 94 = .ok (.iinc 3 1, 3) := by decide +kernel
theorem dX8_givesRow_97 : decode cX8_givesRow 97 = .ok (.goto (-95), 3) := by decide +kernel
theorem dX8_givesRow_100 : decode cX8_givesRow 100 = .ok (.return_, 1) := by decide +kernel
theorem dX8_gives_0 : decode cX8_gives 0 = .ok (.iconst 0, 1) := by decide +kernel
theorem dX8_gives_1 : decode cX8_gives 1 = .ok (.istore_n 3, 1) := by decide +kernel
theorem dX8_gives_2 : decode cX8_gives 2 = .ok (.iload_n 3, 1) := by decide +kernel
theorem dX8_gives_3 : decode cX8_gives 3 = .ok (.iconst 5, 1) := by decide +kernel
theorem dX8_gives_4 : decode cX8_gives 4 = .ok (.if_icmp .ge 16, 3) := by decide +kernel
theorem dX8_gives_7 : decode cX8_gives 7 = .ok (.aload_n 0, 1) := by decide +kernel
theorem dX8_gives_8 : decode cX8_gives 8 = .ok (.getfield 30, 3) := by decide +kernel
theorem dX8_gives_11 : decode cX8_gives 11 = .ok (.iload_n 3, 1) := by decide +kernel
theorem dX8_gives_12 : decode cX8_gives 12 = .ok (.iconst 0, 1) := by decide +kernel
theorem dX8_gives_13 : decode cX8_gives 13 = .ok (.iastore, 1) := by decide +kernel
theorem dX8_gives_14 : decode cX8_gives 14 = .ok (.iinc 3 1, 3) := by decide +kernel
theorem dX8_gives_17 : decode cX8_gives 17 = .ok (.goto (-15), 3) := by decide +kernel
theorem dX8_gives_20 : decode cX8_gives 20 = .ok (.aload_n 0, 1) := by decide +kernel
theorem dX8_gives_21 : decode cX8_gives 21 = .ok (.getfield 13, 3) := by decide +kernel
theorem dX8_gives_24 : decode cX8_gives 24 = .ok (.iconst 1, 1) := by decide +kernel
theorem dX8_gives_25 : decode cX8_gives 25 = .ok (.iaload, 1) := by decide +kernel
theorem dX8_gives_26 : decode cX8_gives 26 = .ok (.ifCond .le 43, 3) := by decide +kernel
theorem dX8_gives_29 : decode cX8_gives 29 = .ok (.iload_n 2, 1) := by decide +kernel
theorem dX8_gives_30 : decode cX8_gives 30 = .ok (.ifCond .ne 11, 3) := by decide +kernel
theorem dX8_gives_33 : decode cX8_gives 33 = .ok (.aload_n 0, 1) := by decide +kernel
theorem dX8_gives_34 : decode cX8_gives 34 = .ok (.iload_n 1, 1) := by decide +kernel
theorem dX8_gives_35 : decode cX8_gives 35 = .ok (.invokevirtual 151, 3) := by decide +kernel
theorem dX8_gives_38 : decode cX8_gives 38 = .ok (.goto 31, 3) := by decide +kernel
theorem dX8_gives_41 : decode cX8_gives 41 = .ok (.iload_n 2, 1) := by decide +kernel
theorem dX8_gives_42 : decode cX8_gives 42 = .ok (.iconst 1, 1) := by decide +kernel
theorem dX8_gives_43 : decode cX8_gives 43 = .ok (.if_icmp .ne 11, 3) := by decide +kernel
theorem dX8_gives_46 : decode cX8_gives 46 = .ok (.aload_n 0, 1) := by decide +kernel
theorem dX8_gives_47 : decode cX8_gives 47 = .ok (.iload_n 1, 1) := by decide +kernel
theorem dX8_gives_48 : decode cX8_gives 48 = .ok (.invokevirtual 154, 3) := by decide +kernel
theorem dX8_gives_51 : decode cX8_gives 51 = .ok (.goto 18, 3) := by decide +kernel
theorem dX8_gives_54 : decode cX8_gives 54 = .ok (.aload_n 0, 1) := by decide +kernel
theorem dX8_gives_55 : decode cX8_gives 55 = .ok (.iload_n 1, 1) := by decide +kernel
theorem dX8_gives_56 : decode cX8_gives 56 = .ok (.iload_n 2, 1) := by decide +kernel
theorem dX8_gives_57 : decode cX8_gives 57 = .ok (.iconst 2, 1) := by decide +kernel
theorem dX8_gives_58 : decode cX8_gives 58 = .ok (.if_icmp .ne 7, 3) := by decide +kernel
theorem dX8_gives_61 : decode cX8_gives 61 = .ok (.iconst 1, 1) := by decide +kernel
theorem dX8_gives_62 : decode cX8_gives 62 = .ok (.goto 4, 3) := by decide +kernel
theorem dX8_gives_65 : decode cX8_gives 65 = .ok (.iconst 2, 1) := by decide +kernel
theorem dX8_gives_66 : decode cX8_gives 66 = .ok (.invokevirtual 157, 3) := by decide +kernel
theorem dX8_gives_69 : decode cX8_gives 69 = .ok (.return_, 1) := by decide +kernel
theorem dX8_givesNow_0 : decode cX8_givesNow 0 = .ok (.aload_n 0, 1) := by decide +kernel
theorem dX8_givesNow_1 : decode cX8_givesNow 1 = .ok (.aload_n 0, 1) := by decide +kernel
theorem dX8_givesNow_2 : decode cX8_givesNow 2 = .ok (.getfield 13, 3) := by decide +kernel
theorem dX8_givesNow_5 : decode cX8_givesNow 5 = .ok (.iconst 0, 1) := by decide +kernel
theorem dX8_givesNow_6 : decode cX8_givesNow 6 = .ok (.iaload, 1) := by decide +kernel
theorem dX8_givesNow_7 : decode cX8_givesNow 7 = .ok (.aload_n 0, 1) := by decide +kernel
theorem dX8_givesNow_8 : decode cX8_givesNow 8 = .ok (.getfield 13, 3) := by decide +kernel
theorem dX8_givesNow_11 : decode cX8_givesNow 11 = .ok (.iconst 2, 1) := by decide +kernel
theorem dX8_givesNow_12 : decode cX8_givesNow 12 = .ok (.iaload, 1) := by decide +kernel
theorem dX8_givesNow_13 : decode cX8_givesNow 13 = .ok (.invokevirtual 161, 3) := by decide +kernel
theorem dX8_givesNow_16 : decode cX8_givesNow 16 = .ok (.return_, 1) := by decide +kernel
theorem dX8_isOff_0 : decode cX8_isOff 0 = .ok (.aload_n 0, 1) := by decide +kernel
theorem dX8_isOff_1 : decode cX8_isOff 1 = .ok (.getfield 30, 3) := by decide +kernel
theorem dX8_isOff_4 : decode cX8_isOff 4 = .ok (.iload_n 1, 1) := by decide +kernel
theorem dX8_isOff_5 : decode cX8_isOff 5 = .ok (.iaload, 1) := by decide +kernel
theorem dX8_isOff_6 : decode cX8_isOff 6 = .ok (.i2l, 1) := by decide +kernel
theorem dX8_isOff_7 : decode cX8_isOff 7 = .ok (.aload_n 0, 1) := by decide +kernel
theorem dX8_isOff_8 : decode cX8_isOff 8 = .ok (.getfield 145, 3) := by decide +kernel
theorem dX8_isOff_11 : decode cX8_isOff 11 = .ok (.lmul, 1) := by decide +kernel
theorem dX8_isOff_12 : decode cX8_isOff 12 = .ok (.iload_n 2, 1) := by decide +kernel
theorem dX8_isOff_13 : decode cX8_isOff 13 = .ok (.i2l, 1) := by decide +kernel
theorem dX8_isOff_14 : decode cX8_isOff 14 = .ok (.aload_n 0, 1) := by decide +kernel
theorem dX8_isOff_15 : decode cX8_isOff 15 = .ok (.getfield 26, 3) := by decide +kernel
theorem dX8_isOff_18 : decode cX8_isOff 18 = .ok (.iload_n 1, 1) := by decide +kernel
theorem dX8_isOff_19 : decode cX8_isOff 19 = .ok (.laload, 1) := by decide +kernel
theorem dX8_isOff_20 : decode cX8_isOff 20 = .ok (.lmul, 1) := by decide +kernel
theorem dX8_isOff_21 : decode cX8_isOff 21 = .ok (.lsub, 1) := by decide +kernel
theorem dX8_isOff_22 : decode cX8_isOff 22 = .ok (.lstore_n 3, 1) := by decide +kernel
theorem dX8_isOff_23 : decode cX8_isOff 23 = .ok (.lload_n 3, 1) := by decide +kernel
theorem dX8_isOff_24 : decode cX8_isOff 24 = .ok (.aload_n 0, 1) := by decide +kernel
theorem dX8_isOff_25 : decode cX8_isOff 25 = .ok (.getfield 145, 3) := by decide +kernel
theorem dX8_isOff_28 : decode cX8_isOff 28 = .ok (.lcmp, 1) := by decide +kernel
theorem dX8_isOff_29 : decode cX8_isOff 29 = .ok (.ifCond .ge 13, 3) := by decide +kernel
theorem dX8_isOff_32 : decode cX8_isOff 32 = .ok (.lload_n 3, 1) := by decide +kernel
theorem dX8_isOff_33 : decode cX8_isOff 33 = .ok (.aload_n 0, 1) := by decide +kernel
theorem dX8_isOff_34 : decode cX8_isOff 34 = .ok (.getfield 145, 3) := by decide +kernel
theorem dX8_isOff_37 : decode cX8_isOff 37 = .ok (.lneg, 1) := by decide +kernel
theorem dX8_isOff_38 : decode cX8_isOff 38 = .ok (.lcmp, 1) := by decide +kernel
theorem dX8_isOff_39 : decode cX8_isOff 39 = .ok (.ifCond .gt 7, 3) := by decide +kernel
theorem dX8_isOff_42 : decode cX8_isOff 42 = .ok (.iconst 1, 1) := by decide +kernel
theorem dX8_isOff_43 : decode cX8_isOff 43 = .ok (.goto 4, 3) := by decide +kernel
theorem dX8_isOff_46 : decode cX8_isOff 46 = .ok (.iconst 0, 1) := by decide +kernel
theorem dX8_isOff_47 : decode cX8_isOff 47 = .ok (.ireturn, 1) := by decide +kernel
theorem dX8_firstOff_0 : decode cX8_firstOff 0 = .ok (.iconst 0, 1) := by decide +kernel
theorem dX8_firstOff_1 : decode cX8_firstOff 1 = .ok (.istore_n 2, 1) := by decide +kernel
theorem dX8_firstOff_2 : decode cX8_firstOff 2 = .ok (.iload_n 2, 1) := by decide +kernel
theorem dX8_firstOff_3 : decode cX8_firstOff 3 = .ok (.aload_n 0, 1) := by decide +kernel
theorem dX8_firstOff_4 : decode cX8_firstOff 4 = .ok (.getfield 13, 3) := by decide +kernel
theorem dX8_firstOff_7 : decode cX8_firstOff 7 = .ok (.iconst 1, 1) := by decide +kernel
theorem dX8_firstOff_8 : decode cX8_firstOff 8 = .ok (.iaload, 1) := by decide +kernel
theorem dX8_firstOff_9 : decode cX8_firstOff 9 = .ok (.if_icmp .ge 20, 3) := by decide +kernel
theorem dX8_firstOff_12 : decode cX8_firstOff 12 = .ok (.aload_n 0, 1) := by decide +kernel
theorem dX8_firstOff_13 : decode cX8_firstOff 13 = .ok (.iload_n 2, 1) := by decide +kernel
theorem dX8_firstOff_14 : decode cX8_firstOff 14 = .ok (.iload_n 1, 1) := by decide +kernel
theorem dX8_firstOff_15 : decode cX8_firstOff 15 = .ok (.invokevirtual 164, 3) := by decide +kernel
theorem dX8_firstOff_18 : decode cX8_firstOff 18 = .ok (.ifCond .eq 5, 3) := by decide +kernel
theorem dX8_firstOff_21 : decode cX8_firstOff 21 = .ok (.iload_n 2, 1) := by decide +kernel
theorem dX8_firstOff_22 : decode cX8_firstOff 22 = .ok (.ireturn, 1) := by decide +kernel
theorem dX8_firstOff_23 : decode cX8_firstOff 23 = .ok (.iinc 2 1, 3) := by decide +kernel
theorem dX8_firstOff_26 : decode cX8_firstOff 26 = .ok (.goto (-24), 3) := by decide +kernel
theorem dX8_firstOff_29 : decode cX8_firstOff 29 = .ok (.bipush (-4), 2) := by decide +kernel
theorem dX8_firstOff_31 : decode cX8_firstOff 31 = .ok (.ireturn, 1) := by decide +kernel
theorem dX8_allGot_0 : decode cX8_allGot 0 = .ok (.iconst 0, 1) := by decide +kernel
theorem dX8_allGot_1 : decode cX8_allGot 1 = .ok (.istore_n 1, 1) := by decide +kernel
theorem dX8_allGot_2 : decode cX8_allGot 2 = .ok (.iconst 0, 1) := by decide +kernel
theorem dX8_allGot_3 : decode cX8_allGot 3 = .ok (.istore_n 2, 1) := by decide +kernel
theorem dX8_allGot_4 : decode cX8_allGot 4 = .ok (.iload_n 2, 1) := by decide +kernel
theorem dX8_allGot_5 : decode cX8_allGot 5 = .ok (.aload_n 0, 1) := by decide +kernel
theorem dX8_allGot_6 : decode cX8_allGot 6 = .ok (.getfield 13, 3) := by decide +kernel
theorem dX8_allGot_9 : decode cX8_allGot 9 = .ok (.iconst 1, 1) := by decide +kernel
theorem dX8_allGot_10 : decode cX8_allGot 10 = .ok (.iaload, 1) := by decide +kernel
theorem dX8_allGot_11 : decode cX8_allGot 11 = .ok (.if_icmp .ge 18, 3) := by decide +kernel
theorem dX8_allGot_14 : decode cX8_allGot 14 = .ok (.iload_n 1, 1) := by decide +kernel
theorem dX8_allGot_15 : decode cX8_allGot 15 = .ok (.aload_n 0, 1) := by decide +kernel
theorem dX8_allGot_16 : decode cX8_allGot 16 = .ok (.getfield 30, 3) := by decide +kernel
theorem dX8_allGot_19 : decode cX8_allGot 19 = .ok (.iload_n 2, 1) := by decide +kernel
theorem dX8_allGot_20 : decode cX8_allGot 20 = .ok (.iaload, 1) := by decide +kernel
theorem dX8_allGot_21 : decode cX8_allGot 21 = .ok (.iadd, 1) := by decide +kernel
theorem dX8_allGot_22 : decode cX8_allGot 22 = .ok (.istore_n 1, 1) := by decide +kernel
theorem dX8_allGot_23 : decode cX8_allGot 23 = .ok (.iinc 2 1, 3) := by decide +kernel
theorem dX8_allGot_26 : decode cX8_allGot 26 = .ok (.goto (-22), 3) := by decide +kernel
theorem dX8_allGot_29 : decode cX8_allGot 29 = .ok (.iload_n 1, 1) := by decide +kernel
theorem dX8_allGot_30 : decode cX8_allGot 30 = .ok (.ireturn, 1) := by decide +kernel
theorem dX8_rule_0 : decode cX8_rule 0 = .ok (.aload_n 0, 1) := by decide +kernel
theorem dX8_rule_1 : decode cX8_rule 1 = .ok (.invokevirtual 168, 3) := by decide +kernel
theorem dX8_rule_4 : decode cX8_rule 4 = .ok (.aload_n 0, 1) := by decide +kernel
theorem dX8_rule_5 : decode cX8_rule 5 = .ok (.invokevirtual 171, 3) := by decide +kernel
theorem dX8_rule_8 : decode cX8_rule 8 = .ok (.iload_n 1, 1) := by decide +kernel
theorem dX8_rule_9 : decode cX8_rule 9 = .ok (.tableswitch 95 0 4 #[35, 42, 49, 56, 90], 35) := by decide +kernel
theorem dX8_rule_44 : decode cX8_rule 44 = .ok (.aload_n 0, 1) := by decide +kernel
theorem dX8_rule_45 : decode cX8_rule 45 = .ok (.getfield 7, 3) := by decide +kernel
theorem dX8_rule_48 : decode cX8_rule 48 = .ok (.iconst 1, 1) := by decide +kernel
theorem dX8_rule_49 : decode cX8_rule 49 = .ok (.iaload, 1) := by decide +kernel
theorem dX8_rule_50 : decode cX8_rule 50 = .ok (.ireturn, 1) := by decide +kernel
theorem dX8_rule_51 : decode cX8_rule 51 = .ok (.aload_n 0, 1) := by decide +kernel
theorem dX8_rule_52 : decode cX8_rule 52 = .ok (.getfield 7, 3) := by decide +kernel
theorem dX8_rule_55 : decode cX8_rule 55 = .ok (.iconst 0, 1) := by decide +kernel
theorem dX8_rule_56 : decode cX8_rule 56 = .ok (.iaload, 1) := by decide +kernel
theorem dX8_rule_57 : decode cX8_rule 57 = .ok (.ireturn, 1) := by decide +kernel
theorem dX8_rule_58 : decode cX8_rule 58 = .ok (.aload_n 0, 1) := by decide +kernel
theorem dX8_rule_59 : decode cX8_rule 59 = .ok (.getfield 7, 3) := by decide +kernel
theorem dX8_rule_62 : decode cX8_rule 62 = .ok (.iconst 2, 1) := by decide +kernel
theorem dX8_rule_63 : decode cX8_rule 63 = .ok (.iaload, 1) := by decide +kernel
theorem dX8_rule_64 : decode cX8_rule 64 = .ok (.ireturn, 1) := by decide +kernel
theorem dX8_rule_65 : decode cX8_rule 65 = .ok (.aload_n 0, 1) := by decide +kernel
theorem dX8_rule_66 : decode cX8_rule 66 = .ok (.getfield 145, 3) := by decide +kernel
theorem dX8_rule_69 : decode cX8_rule 69 = .ok (.aload_n 0, 1) := by decide +kernel
theorem dX8_rule_70 : decode cX8_rule 70 = .ok (.getfield 141, 3) := by decide +kernel
theorem dX8_rule_73 : decode cX8_rule 73 = .ok (.lcmp, 1) := by decide +kernel
theorem dX8_rule_74 : decode cX8_rule 74 = .ok (.ifCond .ge 7, 3) := by decide +kernel
theorem dX8_rule_77 : decode cX8_rule 77 = .ok (.iconst 0, 1) := by decide +kernel
theorem dX8_rule_78 : decode cX8_rule 78 = .ok (.goto 20, 3) := by decide +kernel
theorem dX8_rule_81 : decode cX8_rule 81 = .ok (.aload_n 0, 1) := by decide +kernel
theorem dX8_rule_82 : decode cX8_rule 82 = .ok (.getfield 145, 3) := by decide +kernel
theorem dX8_rule_85 : decode cX8_rule 85 = .ok (.aload_n 0, 1) := by decide +kernel
theorem dX8_rule_86 : decode cX8_rule 86 = .ok (.getfield 141, 3) := by decide +kernel
theorem dX8_rule_89 : decode cX8_rule 89 = .ok (.lcmp, 1) := by decide +kernel
theorem dX8_rule_90 : decode cX8_rule 90 = .ok (.ifCond .ne 7, 3) := by decide +kernel
theorem dX8_rule_93 : decode cX8_rule 93 = .ok (.iconst 1, 1) := by decide +kernel
theorem dX8_rule_94 : decode cX8_rule 94 = .ok (.goto 4, 3) := by decide +kernel
theorem dX8_rule_97 : decode cX8_rule 97 = .ok (.iconst 2, 1) := by decide +kernel
theorem dX8_rule_98 : decode cX8_rule 98 = .ok (.ireturn, 1) := by decide +kernel
theorem dX8_rule_99 : decode cX8_rule 99 = .ok (.aload_n 0, 1) := by decide +kernel
theorem dX8_rule_100 : decode cX8_rule 100 = .ok (.invokevirtual 174, 3) := by decide +kernel
theorem dX8_rule_103 : decode cX8_rule 103 = .ok (.ireturn, 1) := by decide +kernel
theorem dX8_rule_104 : decode cX8_rule 104 = .ok (.iconst (-1), 1) := by decide +kernel
theorem dX8_rule_105 : decode cX8_rule 105 = .ok (.ireturn, 1) := by decide +kernel
theorem dX8_heir_0 : decode cX8_heir 0 = .ok (.aload_n 0, 1) := by decide +kernel
theorem dX8_heir_1 : decode cX8_heir 1 = .ok (.iload_n 1, 1) := by decide +kernel
theorem dX8_heir_2 : decode cX8_heir 2 = .ok (.invokevirtual 177, 3) := by decide +kernel
theorem dX8_heir_5 : decode cX8_heir 5 = .ok (.ifCond .eq 15, 3) := by decide +kernel
theorem dX8_heir_8 : decode cX8_heir 8 = .ok (.iload_n 2, 1) := by decide +kernel
theorem dX8_heir_9 : decode cX8_heir 9 = .ok (.i2l, 1) := by decide +kernel
theorem dX8_heir_10 : decode cX8_heir 10 = .ok (.lconst 0, 1) := by decide +kernel
theorem dX8_heir_11 : decode cX8_heir 11 = .ok (.ldc2_w 139, 3) := by decide +kernel
theorem dX8_heir_14 : decode cX8_heir 14 = .ok (.invokestatic 75, 3) := by decide +kernel
theorem dX8_heir_17 : decode cX8_heir 17 = .ok (.ifCond .ne 5, 3) := by decide +kernel
theorem dX8_heir_20 : decode cX8_heir 20 = .ok (.iconst (-1), 1) := by decide +kernel
theorem dX8_heir_21 : decode cX8_heir 21 = .ok (.ireturn, 1) := by decide +kernel
theorem dX8_heir_22 : decode cX8_heir 22 = .ok (.aload_n 0, 1) := by decide +kernel
theorem dX8_heir_23 : decode cX8_heir 23 = .ok (.invokevirtual 168, 3) := by decide +kernel
theorem dX8_heir_26 : decode cX8_heir 26 = .ok (.aload_n 0, 1) := by decide +kernel
theorem dX8_heir_27 : decode cX8_heir 27 = .ok (.invokevirtual 171, 3) := by decide +kernel
theorem dX8_heir_30 : decode cX8_heir 30 = .ok (.iload_n 2, 1) := by decide +kernel
theorem dX8_heir_31 : decode cX8_heir 31 = .ok (.iconst 2, 1) := by decide +kernel
theorem dX8_heir_32 : decode cX8_heir 32 = .ok (.if_icmp .ge 18, 3) := by decide +kernel
theorem dX8_heir_35 : decode cX8_heir 35 = .ok (.aload_n 0, 1) := by decide +kernel
theorem dX8_heir_36 : decode cX8_heir 36 = .ok (.getfield 7, 3) := by decide +kernel
theorem dX8_heir_39 : decode cX8_heir 39 = .ok (.iconst 3, 1) := by decide +kernel
theorem dX8_heir_40 : decode cX8_heir 40 = .ok (.iconst 2, 1) := by decide +kernel
theorem dX8_heir_41 : decode cX8_heir 41 = .ok (.iload_n 1, 1) := by decide +kernel
theorem dX8_heir_42 : decode cX8_heir 42 = .ok (.imul, 1) := by decide +kernel
theorem dX8_heir_43 : decode cX8_heir 43 = .ok (.iadd, 1) := by decide +kernel
theorem dX8_heir_44 : decode cX8_heir 44 = .ok (.iload_n 2, 1) := by decide +kernel
theorem dX8_heir_45 : decode cX8_heir 45 = .ok (.iadd, 1) := by decide +kernel
theorem dX8_heir_46 : decode cX8_heir 46 = .ok (.iaload, 1) := by decide +kernel
theorem dX8_heir_47 : decode cX8_heir 47 = .ok (.goto 31, 3) := by decide +kernel
theorem dX8_heir_50 : decode cX8_heir 50 = .ok (.iload_n 2, 1) := by decide +kernel
theorem dX8_heir_51 : decode cX8_heir 51 = .ok (.iconst 2, 1) := by decide +kernel
theorem dX8_heir_52 : decode cX8_heir 52 = .ok (.if_icmp .ne 12, 3) := by decide +kernel
theorem dX8_heir_55 : decode cX8_heir 55 = .ok (.aload_n 0, 1) := by decide +kernel
theorem dX8_heir_56 : decode cX8_heir 56 = .ok (.getfield 30, 3) := by decide +kernel
theorem dX8_heir_59 : decode cX8_heir 59 = .ok (.iload_n 1, 1) := by decide +kernel
theorem dX8_heir_60 : decode cX8_heir 60 = .ok (.iaload, 1) := by decide +kernel
theorem dX8_heir_61 : decode cX8_heir 61 = .ok (.goto 17, 3) := by decide +kernel
theorem dX8_heir_64 : decode cX8_heir 64 = .ok (.aload_n 0, 1) := by decide +kernel
theorem dX8_heir_65 : decode cX8_heir 65 = .ok (.iload_n 1, 1) := by decide +kernel
theorem dX8_heir_66 : decode cX8_heir 66 = .ok (.aload_n 0, 1) := by decide +kernel
theorem dX8_heir_67 : decode cX8_heir 67 = .ok (.getfield 7, 3) := by decide +kernel
theorem dX8_heir_70 : decode cX8_heir 70 = .ok (.iconst 0, 1) := by decide +kernel
theorem dX8_heir_71 : decode cX8_heir 71 = .ok (.iaload, 1) := by decide +kernel
theorem dX8_heir_72 : decode cX8_heir 72 = .ok (.invokevirtual 164, 3) := by decide +kernel
theorem dX8_heir_75 : decode cX8_heir 75 = .ok (.invokestatic 181, 3) := by decide +kernel
theorem dX8_heir_78 : decode cX8_heir 78 = .ok (.ireturn, 1) := by decide +kernel
theorem dX8_common_0 : decode cX8_common 0 = .ok (.lload_n 0, 1) := by decide +kernel
theorem dX8_common_1 : decode cX8_common 1 = .ok (.lstore 4, 2) := by decide +kernel
theorem dX8_common_3 : decode cX8_common 3 = .ok (.lload_n 2, 1) := by decide +kernel
theorem dX8_common_4 : decode cX8_common 4 = .ok (.lstore 6, 2) := by decide +kernel
theorem dX8_common_6 : decode cX8_common 6 = .ok (.lload 6, 2) := by decide +kernel
theorem dX8_common_8 : decode cX8_common 8 = .ok (.lconst 0, 1) := by decide +kernel
theorem dX8_common_9 : decode cX8_common 9 = .ok (.lcmp, 1) := by decide +kernel
theorem dX8_common_10 : decode cX8_common 10 = .ok (.ifCond .eq 21, 3) := by decide +kernel
theorem dX8_common_13 : decode cX8_common 13 = .ok (.lload 4, 2) := by decide +kernel
theorem dX8_common_15 : decode cX8_common 15 = .ok (.lload 6, 2) := by decide +kernel
theorem dX8_common_17 : decode cX8_common 17 = .ok (.lrem, 1) := by decide +kernel
theorem dX8_common_18 : decode cX8_common 18 = .ok (.lstore 8, 2) := by decide +kernel
theorem dX8_common_20 : decode cX8_common 20 = .ok (.lload 6, 2) := by decide +kernel
theorem dX8_common_22 : decode cX8_common 22 = .ok (.lstore 4, 2) := by decide +kernel
theorem dX8_common_24 : decode cX8_common 24 = .ok (.lload 8, 2) := by decide +kernel
theorem dX8_common_26 : decode cX8_common 26 = .ok (.lstore 6, 2) := by decide +kernel
theorem dX8_common_28 : decode cX8_common 28 = .ok (.goto (-22), 3) := by decide +kernel
theorem dX8_common_31 : decode cX8_common 31 = .ok (.lload 4, 2) := by decide +kernel
theorem dX8_common_33 : decode cX8_common 33 = .ok (.lreturn, 1) := by decide +kernel
theorem dX8_lowest_0 : decode cX8_lowest 0 = .ok (.lload_n 2, 1) := by decide +kernel
theorem dX8_lowest_1 : decode cX8_lowest 1 = .ok (.lload_n 0, 1) := by decide +kernel
theorem dX8_lowest_2 : decode cX8_lowest 2 = .ok (.lconst 0, 1) := by decide +kernel
theorem dX8_lowest_3 : decode cX8_lowest 3 = .ok (.lcmp, 1) := by decide +kernel
theorem dX8_lowest_4 : decode cX8_lowest 4 = .ok (.ifCond .ge 8, 3) := by decide +kernel
theorem dX8_lowest_7 : decode cX8_lowest 7 = .ok (.lload_n 0, 1) := by decide +kernel
theorem dX8_lowest_8 : decode cX8_lowest 8 = .ok (.lneg, 1) := by decide +kernel
theorem dX8_lowest_9 : decode cX8_lowest 9 = .ok (.goto 4, 3) := by decide +kernel
theorem dX8_lowest_12 : decode cX8_lowest 12 = .ok (.lload_n 0, 1) := by decide +kernel
theorem dX8_lowest_13 : decode cX8_lowest 13 = .ok (.invokestatic 185, 3) := by decide +kernel
theorem dX8_lowest_16 : decode cX8_lowest 16 = .ok (.lstore 5, 2) := by decide +kernel
theorem dX8_lowest_18 : decode cX8_lowest 18 = .ok (.iload 4, 2) := by decide +kernel
theorem dX8_lowest_20 : decode cX8_lowest 20 = .ok (.ifCond .ne 10, 3) := by decide +kernel
theorem dX8_lowest_23 : decode cX8_lowest 23 = .ok (.lload_n 0, 1) := by decide +kernel
theorem dX8_lowest_24 : decode cX8_lowest 24 = .ok (.lload 5, 2) := by decide +kernel
theorem dX8_lowest_26 : decode cX8_lowest 26 = .ok (.ldiv, 1) := by decide +kernel
theorem dX8_lowest_27 : decode cX8_lowest 27 = .ok (.goto 7, 3) := by decide +kernel
theorem dX8_lowest_30 : decode cX8_lowest 30 = .ok (.lload_n 2, 1) := by decide +kernel
theorem dX8_lowest_31 : decode cX8_lowest 31 = .ok (.lload 5, 2) := by decide +kernel
theorem dX8_lowest_33 : decode cX8_lowest 33 = .ok (.ldiv, 1) := by decide +kernel
theorem dX8_lowest_34 : decode cX8_lowest 34 = .ok (.lreturn, 1) := by decide +kernel
theorem dX8_told_0 : decode cX8_told 0 = .ok (.aload_n 0, 1) := by decide +kernel
theorem dX8_told_1 : decode cX8_told 1 = .ok (.iload_n 1, 1) := by decide +kernel
theorem dX8_told_2 : decode cX8_told 2 = .ok (.invokevirtual 177, 3) := by decide +kernel
theorem dX8_told_5 : decode cX8_told 5 = .ok (.ifCond .eq 49, 3) := by decide +kernel
theorem dX8_told_8 : decode cX8_told 8 = .ok (.iload_n 2, 1) := by decide +kernel
theorem dX8_told_9 : decode cX8_told 9 = .ok (.invokestatic 189, 3) := by decide +kernel
theorem dX8_told_12 : decode cX8_told 12 = .ok (.ifCond .eq 42, 3) := by decide +kernel
theorem dX8_told_15 : decode cX8_told 15 = .ok (.aload_n 0, 1) := by decide +kernel
theorem dX8_told_16 : decode cX8_told 16 = .ok (.getfield 7, 3) := by decide +kernel
theorem dX8_told_19 : decode cX8_told 19 = .ok (.iconst 0, 1) := by decide +kernel
theorem dX8_told_20 : decode cX8_told 20 = .ok (.iaload, 1) := by decide +kernel
theorem dX8_told_21 : decode cX8_told 21 = .ok (.i2l, 1) := by decide +kernel
theorem dX8_told_22 : decode cX8_told 22 = .ok (.aload_n 0, 1) := by decide +kernel
theorem dX8_told_23 : decode cX8_told 23 = .ok (.getfield 7, 3) := by decide +kernel
theorem dX8_told_26 : decode cX8_told 26 = .ok (.iconst 3, 1) := by decide +kernel
theorem dX8_told_27 : decode cX8_told 27 = .ok (.iconst 2, 1) := by decide +kernel
theorem dX8_told_28 : decode cX8_told 28 = .ok (.iload_n 1, 1) := by decide +kernel
theorem dX8_told_29 : decode cX8_told 29 = .ok (.imul, 1) := by decide +kernel
theorem dX8_told_30 : decode cX8_told 30 = .ok (.iadd, 1) := by decide +kernel
theorem dX8_told_31 : decode cX8_told 31 = .ok (.iaload, 1) := by decide +kernel
theorem dX8_told_32 : decode cX8_told 32 = .ok (.i2l, 1) := by decide +kernel
theorem dX8_told_33 : decode cX8_told 33 = .ok (.lmul, 1) := by decide +kernel
theorem dX8_told_34 : decode cX8_told 34 = .ok (.aload_n 0, 1) := by decide +kernel
theorem dX8_told_35 : decode cX8_told 35 = .ok (.getfield 7, 3) := by decide +kernel
theorem dX8_told_38 : decode cX8_told 38 = .ok (.iconst 3, 1) := by decide +kernel
theorem dX8_told_39 : decode cX8_told 39 = .ok (.iconst 2, 1) := by decide +kernel
theorem dX8_told_40 : decode cX8_told 40 = .ok (.iload_n 1, 1) := by decide +kernel
theorem dX8_told_41 : decode cX8_told 41 = .ok (.imul, 1) := by decide +kernel
theorem dX8_told_42 : decode cX8_told 42 = .ok (.iadd, 1) := by decide +kernel
theorem dX8_told_43 : decode cX8_told 43 = .ok (.iconst 1, 1) := by decide +kernel
theorem dX8_told_44 : decode cX8_told 44 = .ok (.iadd, 1) := by decide +kernel
theorem dX8_told_45 : decode cX8_told 45 = .ok (.iaload, 1) := by decide +kernel
theorem dX8_told_46 : decode cX8_told 46 = .ok (.i2l, 1) := by decide +kernel
theorem dX8_told_47 : decode cX8_told 47 = .ok (.iload_n 2, 1) := by decide +kernel
theorem dX8_told_48 : decode cX8_told 48 = .ok (.invokestatic 192, 3) := by decide +kernel
theorem dX8_told_51 : decode cX8_told 51 = .ok (.goto 6, 3) := by decide +kernel
theorem dX8_told_54 : decode cX8_told 54 = .ok (.ldc2_w 196, 3) := by decide +kernel
theorem dX8_told_57 : decode cX8_told 57 = .ok (.lreturn, 1) := by decide +kernel
theorem dX8_sum_0 : decode cX8_sum 0 = .ok (.iload_n 1, 1) := by decide +kernel
theorem dX8_sum_1 : decode cX8_sum 1 = .ok (.invokestatic 189, 3) := by decide +kernel
theorem dX8_sum_4 : decode cX8_sum 4 = .ok (.ifCond .ne 7, 3) := by decide +kernel
theorem dX8_sum_7 : decode cX8_sum 7 = .ok (.ldc2_w 196, 3) := by decide +kernel
theorem dX8_sum_10 : decode cX8_sum 10 = .ok (.lreturn, 1) := by decide +kernel
theorem dX8_sum_11 : decode cX8_sum 11 = .ok (.aload_n 0, 1) := by decide +kernel
theorem dX8_sum_12 : decode cX8_sum 12 = .ok (.invokevirtual 168, 3) := by decide +kernel
theorem dX8_sum_15 : decode cX8_sum 15 = .ok (.aload_n 0, 1) := by decide +kernel
theorem dX8_sum_16 : decode cX8_sum 16 = .ok (.getfield 145, 3) := by decide +kernel
theorem dX8_sum_19 : decode cX8_sum 19 = .ok (.aload_n 0, 1) := by decide +kernel
theorem dX8_sum_20 : decode cX8_sum 20 = .ok (.getfield 141, 3) := by decide +kernel
theorem dX8_sum_23 : decode cX8_sum 23 = .ok (.iload_n 1, 1) := by decide +kernel
theorem dX8_sum_24 : decode cX8_sum 24 = .ok (.invokestatic 192, 3) := by decide +kernel
theorem dX8_sum_27 : decode cX8_sum 27 = .ok (.lreturn, 1) := by decide +kernel
theorem dX8_over_0 : decode cX8_over 0 = .ok (.aload_n 0, 1) := by decide +kernel
theorem dX8_over_1 : decode cX8_over 1 = .ok (.iload_n 1, 1) := by decide +kernel
theorem dX8_over_2 : decode cX8_over 2 = .ok (.invokevirtual 177, 3) := by decide +kernel
theorem dX8_over_5 : decode cX8_over 5 = .ok (.ifCond .eq 10, 3) := by decide +kernel
theorem dX8_over_8 : decode cX8_over 8 = .ok (.iload_n 2, 1) := by decide +kernel
theorem dX8_over_9 : decode cX8_over 9 = .ok (.invokestatic 189, 3) := by decide +kernel
theorem dX8_over_12 : decode cX8_over 12 = .ok (.ifCond .ne 7, 3) := by decide +kernel
theorem dX8_over_15 : decode cX8_over 15 = .ok (.ldc2_w 196, 3) := by decide +kernel
theorem dX8_over_18 : decode cX8_over 18 = .ok (.lreturn, 1) := by decide +kernel
theorem dX8_over_19 : decode cX8_over 19 = .ok (.aload_n 0, 1) := by decide +kernel
theorem dX8_over_20 : decode cX8_over 20 = .ok (.invokevirtual 168, 3) := by decide +kernel
theorem dX8_over_23 : decode cX8_over 23 = .ok (.aload_n 0, 1) := by decide +kernel
theorem dX8_over_24 : decode cX8_over 24 = .ok (.invokevirtual 171, 3) := by decide +kernel
theorem dX8_over_27 : decode cX8_over 27 = .ok (.aload_n 0, 1) := by decide +kernel
theorem dX8_over_28 : decode cX8_over 28 = .ok (.getfield 7, 3) := by decide +kernel
theorem dX8_over_31 : decode cX8_over 31 = .ok (.iconst 3, 1) := by decide +kernel
theorem dX8_over_32 : decode cX8_over 32 = .ok (.iconst 2, 1) := by decide +kernel
theorem dX8_over_33 : decode cX8_over 33 = .ok (.iload_n 1, 1) := by decide +kernel
theorem dX8_over_34 : decode cX8_over 34 = .ok (.imul, 1) := by decide +kernel
theorem dX8_over_35 : decode cX8_over 35 = .ok (.iadd, 1) := by decide +kernel
theorem dX8_over_36 : decode cX8_over 36 = .ok (.iconst 1, 1) := by decide +kernel
theorem dX8_over_37 : decode cX8_over 37 = .ok (.iadd, 1) := by decide +kernel
theorem dX8_over_38 : decode cX8_over 38 = .ok (.iaload, 1) := by decide +kernel
theorem dX8_over_39 : decode cX8_over 39 = .ok (.i2l, 1) := by decide +kernel
theorem dX8_over_40 : decode cX8_over 40 = .ok (.lstore_n 3, 1) := by decide +kernel
theorem dX8_over_41 : decode cX8_over 41 = .ok (.aload_n 0, 1) := by decide +kernel
theorem dX8_over_42 : decode cX8_over 42 = .ok (.getfield 30, 3) := by decide +kernel
theorem dX8_over_45 : decode cX8_over 45 = .ok (.iload_n 1, 1) := by decide +kernel
theorem dX8_over_46 : decode cX8_over 46 = .ok (.iaload, 1) := by decide +kernel
theorem dX8_over_47 : decode cX8_over 47 = .ok (.i2l, 1) := by decide +kernel
theorem dX8_over_48 : decode cX8_over 48 = .ok (.lload_n 3, 1) := by decide +kernel
theorem dX8_over_49 : decode cX8_over 49 = .ok (.lmul, 1) := by decide +kernel
theorem dX8_over_50 : decode cX8_over 50 = .ok (.aload_n 0, 1) := by decide +kernel
theorem dX8_over_51 : decode cX8_over 51 = .ok (.getfield 7, 3) := by decide +kernel
theorem dX8_over_54 : decode cX8_over 54 = .ok (.iconst 0, 1) := by decide +kernel
theorem dX8_over_55 : decode cX8_over 55 = .ok (.iaload, 1) := by decide +kernel
theorem dX8_over_56 : decode cX8_over 56 = .ok (.i2l, 1) := by decide +kernel
theorem dX8_over_57 : decode cX8_over 57 = .ok (.aload_n 0, 1) := by decide +kernel
theorem dX8_over_58 : decode cX8_over 58 = .ok (.getfield 7, 3) := by decide +kernel
theorem dX8_over_61 : decode cX8_over 61 = .ok (.iconst 3, 1) := by decide +kernel
theorem dX8_over_62 : decode cX8_over 62 = .ok (.iconst 2, 1) := by decide +kernel
theorem dX8_over_63 : decode cX8_over 63 = .ok (.iload_n 1, 1) := by decide +kernel
theorem dX8_over_64 : decode cX8_over 64 = .ok (.imul, 1) := by decide +kernel
theorem dX8_over_65 : decode cX8_over 65 = .ok (.iadd, 1) := by decide +kernel
theorem dX8_over_66 : decode cX8_over 66 = .ok (.iaload, 1) := by decide +kernel
theorem dX8_over_67 : decode cX8_over 67 = .ok (.i2l, 1) := by decide +kernel
theorem dX8_over_68 : decode cX8_over 68 = .ok (.lmul, 1) := by decide +kernel
theorem dX8_over_69 : decode cX8_over 69 = .ok (.lsub, 1) := by decide +kernel
theorem dX8_over_70 : decode cX8_over 70 = .ok (.lload_n 3, 1) := by decide +kernel
theorem dX8_over_71 : decode cX8_over 71 = .ok (.iload_n 2, 1) := by decide +kernel
theorem dX8_over_72 : decode cX8_over 72 = .ok (.invokestatic 192, 3) := by decide +kernel
theorem dX8_over_75 : decode cX8_over 75 = .ok (.lreturn, 1) := by decide +kernel
theorem dX8_becomes_0 : decode cX8_becomes 0 = .ok (.aload_n 0, 1) := by decide +kernel
theorem dX8_becomes_1 : decode cX8_becomes 1 = .ok (.getfield 7, 3) := by decide +kernel
theorem dX8_becomes_4 : decode cX8_becomes 4 = .ok (.iload_n 1, 1) := by decide +kernel
theorem dX8_becomes_5 : decode cX8_becomes 5 = .ok (.iaload, 1) := by decide +kernel
theorem dX8_becomes_6 : decode cX8_becomes 6 = .ok (.istore_n 3, 1) := by decide +kernel
theorem dX8_becomes_7 : decode cX8_becomes 7 = .ok (.aload_n 0, 1) := by decide +kernel
theorem dX8_becomes_8 : decode cX8_becomes 8 = .ok (.getfield 7, 3) := by decide +kernel
theorem dX8_becomes_11 : decode cX8_becomes 11 = .ok (.iload_n 1, 1) := by decide +kernel
theorem dX8_becomes_12 : decode cX8_becomes 12 = .ok (.iload_n 2, 1) := by decide +kernel
theorem dX8_becomes_13 : decode cX8_becomes 13 = .ok (.iastore, 1) := by decide +kernel
theorem dX8_becomes_14 : decode cX8_becomes 14 = .ok (.iload_n 3, 1) := by decide +kernel
theorem dX8_becomes_15 : decode cX8_becomes 15 = .ok (.ireturn, 1) := by decide +kernel
theorem dX8_alter_0 : decode cX8_alter 0 = .ok (.aload_n 0, 1) := by decide +kernel
theorem dX8_alter_1 : decode cX8_alter 1 = .ok (.iload_n 1, 1) := by decide +kernel
theorem dX8_alter_2 : decode cX8_alter 2 = .ok (.invokevirtual 177, 3) := by decide +kernel
theorem dX8_alter_5 : decode cX8_alter 5 = .ok (.ifCond .eq 47, 3) := by decide +kernel
theorem dX8_alter_8 : decode cX8_alter 8 = .ok (.iload_n 2, 1) := by decide +kernel
theorem dX8_alter_9 : decode cX8_alter 9 = .ok (.invokestatic 189, 3) := by decide +kernel
theorem dX8_alter_12 : decode cX8_alter 12 = .ok (.ifCond .eq 40, 3) := by decide +kernel
theorem dX8_alter_15 : decode cX8_alter 15 = .ok (.iload_n 3, 1) := by decide +kernel
theorem dX8_alter_16 : decode cX8_alter 16 = .ok (.i2l, 1) := by decide +kernel
theorem dX8_alter_17 : decode cX8_alter 17 = .ok (.lconst 1, 1) := by decide +kernel
theorem dX8_alter_18 : decode cX8_alter 18 = .ok (.iload_n 2, 1) := by decide +kernel
theorem dX8_alter_19 : decode cX8_alter 19 = .ok (.ifCond .ne 9, 3) := by decide +kernel
theorem dX8_alter_22 : decode cX8_alter 22 = .ok (.ldc2_w 198, 3) := by decide +kernel
theorem dX8_alter_25 : decode cX8_alter 25 = .ok (.goto 6, 3) := by decide +kernel
theorem dX8_alter_28 : decode cX8_alter 28 = .ok (.ldc2_w 200, 3) := by decide +kernel
theorem dX8_alter_31 : decode cX8_alter 31 = .ok (.invokestatic 75, 3) := by decide +kernel
theorem dX8_alter_34 : decode cX8_alter 34 = .ok (.ifCond .eq 18, 3) := by decide +kernel
theorem dX8_alter_37 : decode cX8_alter 37 = .ok (.aload_n 0, 1) := by decide +kernel
theorem dX8_alter_38 : decode cX8_alter 38 = .ok (.iconst 3, 1) := by decide +kernel
theorem dX8_alter_39 : decode cX8_alter 39 = .ok (.iconst 2, 1) := by decide +kernel
theorem dX8_alter_40 : decode cX8_alter 40 = .ok (.iload_n 1, 1) := by decide +kernel
theorem dX8_alter_41 : decode cX8_alter 41 = .ok (.imul, 1) := by decide +kernel
theorem dX8_alter_42 : decode cX8_alter 42 = .ok (.iadd, 1) := by decide +kernel
theorem dX8_alter_43 : decode cX8_alter 43 = .ok (.iload_n 2, 1) := by decide +kernel
theorem dX8_alter_44 : decode cX8_alter 44 = .ok (.iadd, 1) := by decide +kernel
theorem dX8_alter_45 : decode cX8_alter 45 = .ok (.iload_n 3, 1) := by decide +kernel
theorem dX8_alter_46 : decode cX8_alter 46 = .ok (.invokevirtual 202, 3) := by decide +kernel
theorem dX8_alter_49 : decode cX8_alter 49 = .ok (.goto 4, 3) := by decide +kernel
theorem dX8_alter_52 : decode cX8_alter 52 = .ok (.iconst (-1), 1) := by decide +kernel
theorem dX8_alter_53 : decode cX8_alter 53 = .ok (.ireturn, 1) := by decide +kernel
theorem dX8_herd_0 : decode cX8_herd 0 = .ok (.iload_n 1, 1) := by decide +kernel
theorem dX8_herd_1 : decode cX8_herd 1 = .ok (.i2l, 1) := by decide +kernel
theorem dX8_herd_2 : decode cX8_herd 2 = .ok (.lconst 0, 1) := by decide +kernel
theorem dX8_herd_3 : decode cX8_herd 3 = .ok (.ldc2_w 205, 3) := by decide +kernel
theorem dX8_herd_6 : decode cX8_herd 6 = .ok (.invokestatic 75, 3) := by decide +kernel
theorem dX8_herd_9 : decode cX8_herd 9 = .ok (.ifCond .eq 12, 3) := by decide +kernel
theorem dX8_herd_12 : decode cX8_herd 12 = .ok (.aload_n 0, 1) := by decide +kernel
theorem dX8_herd_13 : decode cX8_herd 13 = .ok (.iconst 0, 1) := by decide +kernel
theorem dX8_herd_14 : decode cX8_herd 14 = .ok (.iload_n 1, 1) := by decide +kernel
theorem dX8_herd_15 : decode cX8_herd 15 = .ok (.invokevirtual 202, 3) := by decide +kernel
theorem dX8_herd_18 : decode cX8_herd 18 = .ok (.goto 4, 3) := by decide +kernel
theorem dX8_herd_21 : decode cX8_herd 21 = .ok (.iconst (-1), 1) := by decide +kernel
theorem dX8_herd_22 : decode cX8_herd 22 = .ok (.ireturn, 1) := by decide +kernel
theorem dX8_judge_0 : decode cX8_judge 0 = .ok (.iload_n 1, 1) := by decide +kernel
theorem dX8_judge_1 : decode cX8_judge 1 = .ok (.invokestatic 207, 3) := by decide +kernel
theorem dX8_judge_4 : decode cX8_judge 4 = .ok (.ifCond .eq 12, 3) := by decide +kernel
theorem dX8_judge_7 : decode cX8_judge 7 = .ok (.aload_n 0, 1) := by decide +kernel
theorem dX8_judge_8 : decode cX8_judge 8 = .ok (.iconst 2, 1) := by decide +kernel
theorem dX8_judge_9 : decode cX8_judge 9 = .ok (.iload_n 1, 1) := by decide +kernel
theorem dX8_judge_10 : decode cX8_judge 10 = .ok (.invokevirtual 202, 3) := by decide +kernel
theorem dX8_judge_13 : decode cX8_judge 13 = .ok (.goto 4, 3) := by decide +kernel
theorem dX8_judge_16 : decode cX8_judge 16 = .ok (.iconst (-1), 1) := by decide +kernel
theorem dX8_judge_17 : decode cX8_judge 17 = .ok (.ireturn, 1) := by decide +kernel
theorem dX8_bear_0 : decode cX8_bear 0 = .ok (.iload_n 1, 1) := by decide +kernel
theorem dX8_bear_1 : decode cX8_bear 1 = .ok (.i2l, 1) := by decide +kernel
theorem dX8_bear_2 : decode cX8_bear 2 = .ok (.lconst 1, 1) := by decide +kernel
theorem dX8_bear_3 : decode cX8_bear 3 = .ok (.ldc2_w 198, 3) := by decide +kernel
theorem dX8_bear_6 : decode cX8_bear 6 = .ok (.invokestatic 75, 3) := by decide +kernel
theorem dX8_bear_9 : decode cX8_bear 9 = .ok (.ifCond .eq 15, 3) := by decide +kernel
theorem dX8_bear_12 : decode cX8_bear 12 = .ok (.iload_n 2, 1) := by decide +kernel
theorem dX8_bear_13 : decode cX8_bear 13 = .ok (.i2l, 1) := by decide +kernel
theorem dX8_bear_14 : decode cX8_bear 14 = .ok (.lconst 1, 1) := by decide +kernel
theorem dX8_bear_15 : decode cX8_bear 15 = .ok (.ldc2_w 200, 3) := by decide +kernel
theorem dX8_bear_18 : decode cX8_bear 18 = .ok (.invokestatic 75, 3) := by decide +kernel
theorem dX8_bear_21 : decode cX8_bear 21 = .ok (.ifCond .ne 5, 3) := by decide +kernel
theorem dX8_bear_24 : decode cX8_bear 24 = .ok (.iconst (-1), 1) := by decide +kernel
theorem dX8_bear_25 : decode cX8_bear 25 = .ok (.ireturn, 1) := by decide +kernel
theorem dX8_bear_26 : decode cX8_bear 26 = .ok (.aload_n 0, 1) := by decide +kernel
theorem dX8_bear_27 : decode cX8_bear 27 = .ok (.getfield 7, 3) := by decide +kernel
theorem dX8_bear_30 : decode cX8_bear 30 = .ok (.iconst 1, 1) := by decide +kernel
theorem dX8_bear_31 : decode cX8_bear 31 = .ok (.iaload, 1) := by decide +kernel
theorem dX8_bear_32 : decode cX8_bear 32 = .ok (.iconst 5, 1) := by decide +kernel
theorem dX8_bear_33 : decode cX8_bear 33 = .ok (.if_icmp .ne 6, 3) := by decide +kernel
theorem dX8_bear_36 : decode cX8_bear 36 = .ok (.bipush (-3), 2) := by decide +kernel
theorem dX8_bear_38 : decode cX8_bear 38 = .ok (.ireturn, 1) := by decide +kernel
theorem dX8_bear_39 : decode cX8_bear 39 = .ok (.aload_n 0, 1) := by decide +kernel
theorem dX8_bear_40 : decode cX8_bear 40 = .ok (.getfield 7, 3) := by decide +kernel
theorem dX8_bear_43 : decode cX8_bear 43 = .ok (.iconst 3, 1) := by decide +kernel
theorem dX8_bear_44 : decode cX8_bear 44 = .ok (.iconst 2, 1) := by decide +kernel
theorem dX8_bear_45 : decode cX8_bear 45 = .ok (.aload_n 0, 1) := by decide +kernel
theorem dX8_bear_46 : decode cX8_bear 46 = .ok (.getfield 7, 3) := by decide +kernel
theorem dX8_bear_49 : decode cX8_bear 49 = .ok (.iconst 1, 1) := by decide +kernel
theorem dX8_bear_50 : decode cX8_bear 50 = .ok (.iaload, 1) := by decide +kernel
theorem dX8_bear_51 : decode cX8_bear 51 = .ok (.imul, 1) := by decide +kernel
theorem dX8_bear_52 : decode cX8_bear 52 = .ok (.iadd, 1) := by decide +kernel
theorem dX8_bear_53 : decode cX8_bear 53 = .ok (.iload_n 1, 1) := by decide +kernel
theorem dX8_bear_54 : decode cX8_bear 54 = .ok (.iastore, 1) := by decide +kernel
theorem dX8_bear_55 : decode cX8_bear 55 = .ok (.aload_n 0, 1) := by decide +kernel
theorem dX8_bear_56 : decode cX8_bear 56 = .ok (.getfield 7, 3) := by decide +kernel
theorem dX8_bear_59 : decode cX8_bear 59 = .ok (.iconst 3, 1) := by decide +kernel
theorem dX8_bear_60 : decode cX8_bear 60 = .ok (.iconst 2, 1) := by decide +kernel
theorem dX8_bear_61 : decode cX8_bear 61 = .ok (.aload_n 0, 1) := by decide +kernel
theorem dX8_bear_62 : decode cX8_bear 62 = .ok (.getfield 7, 3) := by decide +kernel
theorem dX8_bear_65 : decode cX8_bear 65 = .ok (.iconst 1, 1) := by decide +kernel
theorem dX8_bear_66 : decode cX8_bear 66 = .ok (.iaload, 1) := by decide +kernel
theorem dX8_bear_67 : decode cX8_bear 67 = .ok (.imul, 1) := by decide +kernel
theorem dX8_bear_68 : decode cX8_bear 68 = .ok (.iadd, 1) := by decide +kernel
theorem dX8_bear_69 : decode cX8_bear 69 = .ok (.iconst 1, 1) := by decide +kernel
theorem dX8_bear_70 : decode cX8_bear 70 = .ok (.iadd, 1) := by decide +kernel
theorem dX8_bear_71 : decode cX8_bear 71 = .ok (.iload_n 2, 1) := by decide +kernel
theorem dX8_bear_72 : decode cX8_bear 72 = .ok (.iastore, 1) := by decide +kernel
theorem dX8_bear_73 : decode cX8_bear 73 = .ok (.aload_n 0, 1) := by decide +kernel
theorem dX8_bear_74 : decode cX8_bear 74 = .ok (.getfield 7, 3) := by decide +kernel
theorem dX8_bear_77 : decode cX8_bear 77 = .ok (.iconst 1, 1) := by decide +kernel
theorem dX8_bear_78 : decode cX8_bear 78 = .ok (.dup2, 1) := by decide +kernel
theorem dX8_bear_79 : decode cX8_bear 79 = .ok (.iaload, 1) := by decide +kernel
theorem dX8_bear_80 : decode cX8_bear 80 = .ok (.iconst 1, 1) := by decide +kernel
theorem dX8_bear_81 : decode cX8_bear 81 = .ok (.iadd, 1) := by decide +kernel
theorem dX8_bear_82 : decode cX8_bear 82 = .ok (.iastore, 1) := by decide +kernel
theorem dX8_bear_83 : decode cX8_bear 83 = .ok (.aload_n 0, 1) := by decide +kernel
theorem dX8_bear_84 : decode cX8_bear 84 = .ok (.getfield 7, 3) := by decide +kernel
theorem dX8_bear_87 : decode cX8_bear 87 = .ok (.iconst 1, 1) := by decide +kernel
theorem dX8_bear_88 : decode cX8_bear 88 = .ok (.iaload, 1) := by decide +kernel
theorem dX8_bear_89 : decode cX8_bear 89 = .ok (.ireturn, 1) := by decide +kernel
theorem dX8_dropsNow_0 : decode cX8_dropsNow 0 = .ok (.aload_n 0, 1) := by decide +kernel
theorem dX8_dropsNow_1 : decode cX8_dropsNow 1 = .ok (.getfield 13, 3) := by decide +kernel
theorem dX8_dropsNow_4 : decode cX8_dropsNow 4 = .ok (.iconst 1, 1) := by decide +kernel
theorem dX8_dropsNow_5 : decode cX8_dropsNow 5 = .ok (.dup2, 1) := by decide +kernel
theorem dX8_dropsNow_6 : decode cX8_dropsNow 6 = .ok (.iaload, 1) := by decide +kernel
theorem dX8_dropsNow_7 : decode cX8_dropsNow 7 = .ok (.iconst 1, 1) := by decide +kernel
theorem dX8_dropsNow_8 : decode cX8_dropsNow 8 = .ok (.isub, 1) := by decide +kernel
theorem dX8_dropsNow_9 : decode cX8_dropsNow 9 = .ok (.iastore, 1) := by decide +kernel
theorem dX8_dropsNow_10 : decode cX8_dropsNow 10 = .ok (.iconst 3, 1) := by decide +kernel
theorem dX8_dropsNow_11 : decode cX8_dropsNow 11 = .ok (.iconst 2, 1) := by decide +kernel
theorem dX8_dropsNow_12 : decode cX8_dropsNow 12 = .ok (.iload_n 1, 1) := by decide +kernel
theorem dX8_dropsNow_13 : decode cX8_dropsNow 13 = .ok (.imul, 1) := by decide +kernel
theorem dX8_dropsNow_14 : decode cX8_dropsNow 14 = .ok (.iadd, 1) := by decide +kernel
theorem dX8_dropsNow_15 : decode cX8_dropsNow 15 = .ok (.istore_n 2, 1) := by decide +kernel
theorem dX8_dropsNow_16 : decode cX8_dropsNow 16 = .ok (.iload_n 2, 1) := by decide +kernel
theorem dX8_dropsNow_17 : decode cX8_dropsNow 17 = .ok (.iconst 3, 1) := by decide +kernel
theorem dX8_dropsNow_18 : decode cX8_dropsNow 18 = .ok (.iconst 2, 1) := by decide +kernel
theorem dX8_dropsNow_19 : decode cX8_dropsNow 19 = .ok (.aload_n 0, 1) := by decide +kernel
theorem dX8_dropsNow_20 : decode cX8_dropsNow 20 = .ok (.getfield 13, 3) := by decide +kernel
theorem dX8_dropsNow_23 : decode cX8_dropsNow 23 = .ok (.iconst 1, 1) := by decide +kernel
theorem dX8_dropsNow_24 : decode cX8_dropsNow 24 = .ok (.iaload, 1) := by decide +kernel
theorem dX8_dropsNow_25 : decode cX8_dropsNow 25 = .ok (.imul, 1) := by decide +kernel
theorem dX8_dropsNow_26 : decode cX8_dropsNow 26 = .ok (.iadd, 1) := by decide +kernel
theorem dX8_dropsNow_27 : decode cX8_dropsNow 27 = .ok (.if_icmp .ge 23, 3) := by decide +kernel
theorem dX8_dropsNow_30 : decode cX8_dropsNow 30 = .ok (.aload_n 0, 1) := by decide +kernel
theorem dX8_dropsNow_31 : decode cX8_dropsNow 31 = .ok (.getfield 13, 3) := by decide +kernel
theorem dX8_dropsNow_34 : decode cX8_dropsNow 34 = .ok (.iload_n 2, 1) := by decide +kernel
theorem dX8_dropsNow_35 : decode cX8_dropsNow 35 = .ok (.aload_n 0, 1) := by decide +kernel
theorem dX8_dropsNow_36 : decode cX8_dropsNow 36 = .ok (.getfield 13, 3) := by decide +kernel
theorem dX8_dropsNow_39 : decode cX8_dropsNow 39 = .ok (.iload_n 2, 1) := by decide +kernel
theorem dX8_dropsNow_40 : decode cX8_dropsNow 40 = .ok (.iconst 2, 1) := by decide +kernel
theorem dX8_dropsNow_41 : decode cX8_dropsNow 41 = .ok (.iadd, 1) := by decide +kernel
theorem dX8_dropsNow_42 : decode cX8_dropsNow 42 = .ok (.iaload, 1) := by decide +kernel
theorem dX8_dropsNow_43 : decode cX8_dropsNow 43 = .ok (.iastore, 1) := by decide +kernel
theorem dX8_dropsNow_44 : decode cX8_dropsNow 44 = .ok (.iinc 2 1, 3) := by decide +kernel
theorem dX8_dropsNow_47 : decode cX8_dropsNow 47 = .ok (.goto (-31), 3) := by decide +kernel
theorem dX8_dropsNow_50 : decode cX8_dropsNow 50 = .ok (.aload_n 0, 1) := by decide +kernel
theorem dX8_dropsNow_51 : decode cX8_dropsNow 51 = .ok (.invokevirtual 148, 3) := by decide +kernel
theorem dX8_dropsNow_54 : decode cX8_dropsNow 54 = .ok (.return_, 1) := by decide +kernel
theorem dX8_dies_0 : decode cX8_dies 0 = .ok (.aload_n 0, 1) := by decide +kernel
theorem dX8_dies_1 : decode cX8_dies 1 = .ok (.iload_n 1, 1) := by decide +kernel
theorem dX8_dies_2 : decode cX8_dies 2 = .ok (.invokevirtual 177, 3) := by decide +kernel
theorem dX8_dies_5 : decode cX8_dies 5 = .ok (.ifCond .ne 5, 3) := by decide +kernel
theorem dX8_dies_8 : decode cX8_dies 8 = .ok (.iconst (-1), 1) := by decide +kernel
theorem dX8_dies_9 : decode cX8_dies 9 = .ok (.ireturn, 1) := by decide +kernel
theorem dX8_dies_10 : decode cX8_dies 10 = .ok (.aload_n 0, 1) := by decide +kernel
theorem dX8_dies_11 : decode cX8_dies 11 = .ok (.invokevirtual 168, 3) := by decide +kernel
theorem dX8_dies_14 : decode cX8_dies 14 = .ok (.aload_n 0, 1) := by decide +kernel
theorem dX8_dies_15 : decode cX8_dies 15 = .ok (.iload_n 1, 1) := by decide +kernel
theorem dX8_dies_16 : decode cX8_dies 16 = .ok (.invokevirtual 210, 3) := by decide +kernel
theorem dX8_dies_19 : decode cX8_dies 19 = .ok (.iconst 0, 1) := by decide +kernel
theorem dX8_dies_20 : decode cX8_dies 20 = .ok (.istore_n 2, 1) := by decide +kernel
theorem dX8_dies_21 : decode cX8_dies 21 = .ok (.iload_n 2, 1) := by decide +kernel
theorem dX8_dies_22 : decode cX8_dies 22 = .ok (.bipush 26, 2) := by decide +kernel
theorem dX8_dies_24 : decode cX8_dies 24 = .ok (.if_icmp .ge 21, 3) := by decide +kernel
theorem dX8_dies_27 : decode cX8_dies 27 = .ok (.aload_n 0, 1) := by decide +kernel
theorem dX8_dies_28 : decode cX8_dies 28 = .ok (.getfield 7, 3) := by decide +kernel
theorem dX8_dies_31 : decode cX8_dies 31 = .ok (.iload_n 2, 1) := by decide +kernel
theorem dX8_dies_32 : decode cX8_dies 32 = .ok (.aload_n 0, 1) := by decide +kernel
theorem dX8_dies_33 : decode cX8_dies 33 = .ok (.getfield 13, 3) := by decide +kernel
theorem dX8_dies_36 : decode cX8_dies 36 = .ok (.iload_n 2, 1) := by decide +kernel
theorem dX8_dies_37 : decode cX8_dies 37 = .ok (.iaload, 1) := by decide +kernel
theorem dX8_dies_38 : decode cX8_dies 38 = .ok (.iastore, 1) := by decide +kernel
theorem dX8_dies_39 : decode cX8_dies 39 = .ok (.iinc 2 1, 3) := by decide +kernel
theorem dX8_dies_42 : decode cX8_dies 42 = .ok (.goto (-21), 3) := by decide +kernel
theorem dX8_dies_45 : decode cX8_dies 45 = .ok (.aload_n 0, 1) := by decide +kernel
theorem dX8_dies_46 : decode cX8_dies 46 = .ok (.getfield 7, 3) := by decide +kernel
theorem dX8_dies_49 : decode cX8_dies 49 = .ok (.iconst 1, 1) := by decide +kernel
theorem dX8_dies_50 : decode cX8_dies 50 = .ok (.iaload, 1) := by decide +kernel
theorem dX8_dies_51 : decode cX8_dies 51 = .ok (.ireturn, 1) := by decide +kernel
theorem dX8_isWhole_0 : decode cX8_isWhole 0 = .ok (.iload_n 2, 1) := by decide +kernel
theorem dX8_isWhole_1 : decode cX8_isWhole 1 = .ok (.aload_n 0, 1) := by decide +kernel
theorem dX8_isWhole_2 : decode cX8_isWhole 2 = .ok (.getfield 7, 3) := by decide +kernel
theorem dX8_isWhole_5 : decode cX8_isWhole 5 = .ok (.iconst 3, 1) := by decide +kernel
theorem dX8_isWhole_6 : decode cX8_isWhole 6 = .ok (.iconst 2, 1) := by decide +kernel
theorem dX8_isWhole_7 : decode cX8_isWhole 7 = .ok (.iload_n 1, 1) := by decide +kernel
theorem dX8_isWhole_8 : decode cX8_isWhole 8 = .ok (.imul, 1) := by decide +kernel
theorem dX8_isWhole_9 : decode cX8_isWhole 9 = .ok (.iadd, 1) := by decide +kernel
theorem dX8_isWhole_10 : decode cX8_isWhole 10 = .ok (.iaload, 1) := by decide +kernel
theorem dX8_isWhole_11 : decode cX8_isWhole 11 = .ok (.imul, 1) := by decide +kernel
theorem dX8_isWhole_12 : decode cX8_isWhole 12 = .ok (.aload_n 0, 1) := by decide +kernel
theorem dX8_isWhole_13 : decode cX8_isWhole 13 = .ok (.getfield 7, 3) := by decide +kernel
theorem dX8_isWhole_16 : decode cX8_isWhole 16 = .ok (.iconst 3, 1) := by decide +kernel
theorem dX8_isWhole_17 : decode cX8_isWhole 17 = .ok (.iconst 2, 1) := by decide +kernel
theorem dX8_isWhole_18 : decode cX8_isWhole 18 = .ok (.iload_n 1, 1) := by decide +kernel
theorem dX8_isWhole_19 : decode cX8_isWhole 19 = .ok (.imul, 1) := by decide +kernel
theorem dX8_isWhole_20 : decode cX8_isWhole 20 = .ok (.iadd, 1) := by decide +kernel
theorem dX8_isWhole_21 : decode cX8_isWhole 21 = .ok (.iconst 1, 1) := by decide +kernel
theorem dX8_isWhole_22 : decode cX8_isWhole 22 = .ok (.iadd, 1) := by decide +kernel
theorem dX8_isWhole_23 : decode cX8_isWhole 23 = .ok (.iaload, 1) := by decide +kernel
theorem dX8_isWhole_24 : decode cX8_isWhole 24 = .ok (.irem, 1) := by decide +kernel
theorem dX8_isWhole_25 : decode cX8_isWhole 25 = .ok (.ifCond .ne 7, 3) := by decide +kernel
theorem dX8_isWhole_28 : decode cX8_isWhole 28 = .ok (.iconst 1, 1) := by decide +kernel
theorem dX8_isWhole_29 : decode cX8_isWhole 29 = .ok (.goto 4, 3) := by decide +kernel
theorem dX8_isWhole_32 : decode cX8_isWhole 32 = .ok (.iconst 0, 1) := by decide +kernel
theorem dX8_isWhole_33 : decode cX8_isWhole 33 = .ok (.ireturn, 1) := by decide +kernel
theorem dX8_lend_0 : decode cX8_lend 0 = .ok (.iload_n 1, 1) := by decide +kernel
theorem dX8_lend_1 : decode cX8_lend 1 = .ok (.invokestatic 189, 3) := by decide +kernel
theorem dX8_lend_4 : decode cX8_lend 4 = .ok (.ifCond .ne 5, 3) := by decide +kernel
theorem dX8_lend_7 : decode cX8_lend 7 = .ok (.iconst (-1), 1) := by decide +kernel
theorem dX8_lend_8 : decode cX8_lend 8 = .ok (.ireturn, 1) := by decide +kernel
theorem dX8_lend_9 : decode cX8_lend 9 = .ok (.iconst 0, 1) := by decide +kernel
theorem dX8_lend_10 : decode cX8_lend 10 = .ok (.istore_n 2, 1) := by decide +kernel
theorem dX8_lend_11 : decode cX8_lend 11 = .ok (.iload_n 2, 1) := by decide +kernel
theorem dX8_lend_12 : decode cX8_lend 12 = .ok (.sipush 999, 3) := by decide +kernel
theorem dX8_lend_15 : decode cX8_lend 15 = .ok (.if_icmp .gt 120, 3) := by decide +kernel
theorem dX8_lend_18 : decode cX8_lend 18 = .ok (.aload_n 0, 1) := by decide +kernel
theorem dX8_lend_19 : decode cX8_lend 19 = .ok (.getfield 7, 3) := by decide +kernel
theorem dX8_lend_22 : decode cX8_lend 22 = .ok (.iconst 0, 1) := by decide +kernel
theorem dX8_lend_23 : decode cX8_lend 23 = .ok (.iaload, 1) := by decide +kernel
theorem dX8_lend_24 : decode cX8_lend 24 = .ok (.iload_n 2, 1) := by decide +kernel
theorem dX8_lend_25 : decode cX8_lend 25 = .ok (.iadd, 1) := by decide +kernel
theorem dX8_lend_26 : decode cX8_lend 26 = .ok (.istore_n 3, 1) := by decide +kernel
theorem dX8_lend_27 : decode cX8_lend 27 = .ok (.iconst 1, 1) := by decide +kernel
theorem dX8_lend_28 : decode cX8_lend 28 = .ok (.istore 4, 2) := by decide +kernel
theorem dX8_lend_30 : decode cX8_lend 30 = .ok (.iconst 0, 1) := by decide +kernel
theorem dX8_lend_31 : decode cX8_lend 31 = .ok (.istore 5, 2) := by decide +kernel
theorem dX8_lend_33 : decode cX8_lend 33 = .ok (.iconst 0, 1) := by decide +kernel
theorem dX8_lend_34 : decode cX8_lend 34 = .ok (.istore 6, 2) := by decide +kernel
theorem dX8_lend_36 : decode cX8_lend 36 = .ok (.iload 6, 2) := by decide +kernel
theorem dX8_lend_38 : decode cX8_lend 38 = .ok (.aload_n 0, 1) := by decide +kernel
theorem dX8_lend_39 : decode cX8_lend 39 = .ok (.getfield 7, 3) := by decide +kernel
theorem dX8_lend_42 : decode cX8_lend 42 = .ok (.iconst 1, 1) := by decide +kernel
theorem dX8_lend_43 : decode cX8_lend 43 = .ok (.iaload, 1) := by decide +kernel
theorem dX8_lend_44 : decode cX8_lend 44 = .ok (.if_icmp .ge 63, 3) := by decide +kernel
theorem dX8_lend_47 : decode cX8_lend 47 = .ok (.iload 4, 2) := by decide +kernel
theorem dX8_lend_49 : decode cX8_lend 49 = .ok (.ifCond .eq 17, 3) := by decide +kernel
theorem dX8_lend_52 : decode cX8_lend 52 = .ok (.aload_n 0, 1) := by decide +kernel
theorem dX8_lend_53 : decode cX8_lend 53 = .ok (.iload 6, 2) := by decide +kernel
theorem dX8_lend_55 : decode cX8_lend 55 = .ok (.iload_n 3, 1) := by decide +kernel
theorem dX8_lend_56 : decode cX8_lend 56 = .ok (.invokevirtual 213, 3) := by decide +kernel
theorem dX8_lend_59 : decode cX8_lend 59 = .ok (.ifCond .eq 7, 3) := by decide +kernel
theorem dX8_lend_62 : decode cX8_lend 62 = .ok (.iconst 1, 1) := by decide +kernel
theorem dX8_lend_63 : decode cX8_lend 63 = .ok (.goto 4, 3) := by decide +kernel
theorem dX8_lend_66 : decode cX8_lend 66 = .ok (.iconst 0, 1) := by decide +kernel
theorem dX8_lend_67 : decode cX8_lend 67 = .ok (.istore 4, 2) := by decide +kernel
theorem dX8_lend_69 : decode cX8_lend 69 = .ok (.iload 5, 2) := by decide +kernel
theorem dX8_lend_71 : decode cX8_lend 71 = .ok (.iload_n 3, 1) := by decide +kernel
theorem dX8_lend_72 : decode cX8_lend 72 = .ok (.aload_n 0, 1) := by decide +kernel
theorem dX8_lend_73 : decode cX8_lend 73 = .ok (.getfield 7, 3) := by decide +kernel
theorem dX8_lend_76 : decode cX8_lend 76 = .ok (.iconst 3, 1) := by decide +kernel
theorem dX8_lend_77 : decode cX8_lend 77 = .ok (.iconst 2, 1) := by decide +kernel
theorem dX8_lend_78 : decode cX8_lend 78 = .ok (.iload 6, 2) := by decide +kernel
theorem dX8_lend_80 : decode cX8_lend 80 = .ok (.imul, 1) := by decide +kernel
theorem dX8_lend_81 : decode cX8_lend 81 = .ok (.iadd, 1) := by decide +kernel
theorem dX8_lend_82 : decode cX8_lend 82 = .ok (.iaload, 1) := by decide +kernel
theorem dX8_lend_83 : decode cX8_lend 83 = .ok (.imul, 1) := by decide +kernel
theorem dX8_lend_84 : decode cX8_lend 84 = .ok (.aload_n 0, 1) := by decide +kernel
theorem dX8_lend_85 : decode cX8_lend 85 = .ok (.getfield 7, 3) := by decide +kernel
theorem dX8_lend_88 : decode cX8_lend 88 = .ok (.iconst 3, 1) := by decide +kernel
theorem dX8_lend_89 : decode cX8_lend 89 = .ok (.iconst 2, 1) := by decide +kernel
theorem dX8_lend_90 : decode cX8_lend 90 = .ok (.iload 6, 2) := by decide +kernel
theorem dX8_lend_92 : decode cX8_lend 92 = .ok (.imul, 1) := by decide +kernel
theorem dX8_lend_93 : decode cX8_lend 93 = .ok (.iadd, 1) := by decide +kernel
theorem dX8_lend_94 : decode cX8_lend 94 = .ok (.iconst 1, 1) := by decide +kernel
theorem dX8_lend_95 : decode cX8_lend 95 = .ok (.iadd, 1) := by decide +kernel
theorem dX8_lend_96 : decode cX8_lend 96 = .ok (.iaload, 1) := by decide +kernel
theorem dX8_lend_97 : decode cX8_lend 97 = .ok (.idiv, 1) := by decide +kernel
theorem dX8_lend_98 : decode cX8_lend 98 = .ok (.iadd, 1) := by decide +kernel
theorem dX8_lend_99 : decode cX8_lend 99 = .ok (.istore 5, 2) := by decide +kernel
theorem dX8_lend_101 : decode cX8_lend 101 = .ok (.iinc 6 1, 3) := by decide +kernel
theorem dX8_lend_104 : decode cX8_lend 104 = .ok (.goto (-68), 3) := by decide +kernel
theorem dX8_lend_107 : decode cX8_lend 107 = .ok (.iload 4, 2) := by decide +kernel
theorem dX8_lend_109 : decode cX8_lend 109 = .ok (.ifCond .eq 20, 3) := by decide +kernel
theorem dX8_lend_112 : decode cX8_lend 112 = .ok (.iload_n 1, 1) := by decide +kernel
theorem dX8_lend_113 : decode cX8_lend 113 = .ok (.ifCond .eq 14, 3) := by decide +kernel
theorem dX8_lend_116 : decode cX8_lend 116 = .ok (.iload 5, 2) := by decide +kernel
theorem dX8_lend_118 : decode cX8_lend 118 = .ok (.aload_n 0, 1) := by decide +kernel
theorem dX8_lend_119 : decode cX8_lend 119 = .ok (.getfield 7, 3) := by decide +kernel
theorem dX8_lend_122 : decode cX8_lend 122 = .ok (.iconst 0, 1) := by decide +kernel
theorem dX8_lend_123 : decode cX8_lend 123 = .ok (.iaload, 1) := by decide +kernel
theorem dX8_lend_124 : decode cX8_lend 124 = .ok (.if_icmp .ne 5, 3) := by decide +kernel
theorem dX8_lend_127 : decode cX8_lend 127 = .ok (.iload_n 2, 1) := by decide +kernel
theorem dX8_lend_128 : decode cX8_lend 128 = .ok (.ireturn, 1) := by decide +kernel
theorem dX8_lend_129 : decode cX8_lend 129 = .ok (.iinc 2 1, 3) := by decide +kernel
theorem dX8_lend_132 : decode cX8_lend 132 = .ok (.goto (-121), 3) := by decide +kernel
theorem dX8_lend_135 : decode cX8_lend 135 = .ok (.bipush (-4), 2) := by decide +kernel
theorem dX8_lend_137 : decode cX8_lend 137 = .ok (.ireturn, 1) := by decide +kernel
theorem dX8_share_0 : decode cX8_share 0 = .ok (.aload_n 0, 1) := by decide +kernel
theorem dX8_share_1 : decode cX8_share 1 = .ok (.iload_n 1, 1) := by decide +kernel
theorem dX8_share_2 : decode cX8_share 2 = .ok (.invokevirtual 177, 3) := by decide +kernel
theorem dX8_share_5 : decode cX8_share 5 = .ok (.ifCond .eq 15, 3) := by decide +kernel
theorem dX8_share_8 : decode cX8_share 8 = .ok (.iload_n 2, 1) := by decide +kernel
theorem dX8_share_9 : decode cX8_share 9 = .ok (.i2l, 1) := by decide +kernel
theorem dX8_share_10 : decode cX8_share 10 = .ok (.lconst 0, 1) := by decide +kernel
theorem dX8_share_11 : decode cX8_share 11 = .ok (.ldc2_w 205, 3) := by decide +kernel
theorem dX8_share_14 : decode cX8_share 14 = .ok (.invokestatic 75, 3) := by decide +kernel
theorem dX8_share_17 : decode cX8_share 17 = .ok (.ifCond .ne 5, 3) := by decide +kernel
theorem dX8_share_20 : decode cX8_share 20 = .ok (.iconst (-1), 1) := by decide +kernel
theorem dX8_share_21 : decode cX8_share 21 = .ok (.ireturn, 1) := by decide +kernel
theorem dX8_share_22 : decode cX8_share 22 = .ok (.aload_n 0, 1) := by decide +kernel
theorem dX8_share_23 : decode cX8_share 23 = .ok (.getfield 7, 3) := by decide +kernel
theorem dX8_share_26 : decode cX8_share 26 = .ok (.iconst 0, 1) := by decide +kernel
theorem dX8_share_27 : decode cX8_share 27 = .ok (.iaload, 1) := by decide +kernel
theorem dX8_share_28 : decode cX8_share 28 = .ok (.iload_n 2, 1) := by decide +kernel
theorem dX8_share_29 : decode cX8_share 29 = .ok (.iadd, 1) := by decide +kernel
theorem dX8_share_30 : decode cX8_share 30 = .ok (.istore_n 3, 1) := by decide +kernel
theorem dX8_share_31 : decode cX8_share 31 = .ok (.aload_n 0, 1) := by decide +kernel
theorem dX8_share_32 : decode cX8_share 32 = .ok (.iload_n 1, 1) := by decide +kernel
theorem dX8_share_33 : decode cX8_share 33 = .ok (.iload_n 3, 1) := by decide +kernel
theorem dX8_share_34 : decode cX8_share 34 = .ok (.invokevirtual 213, 3) := by decide +kernel
theorem dX8_share_37 : decode cX8_share 37 = .ok (.ifCond .eq 31, 3) := by decide +kernel
theorem dX8_share_40 : decode cX8_share 40 = .ok (.iload_n 3, 1) := by decide +kernel
theorem dX8_share_41 : decode cX8_share 41 = .ok (.aload_n 0, 1) := by decide +kernel
theorem dX8_share_42 : decode cX8_share 42 = .ok (.getfield 7, 3) := by decide +kernel
theorem dX8_share_45 : decode cX8_share 45 = .ok (.iconst 3, 1) := by decide +kernel
theorem dX8_share_46 : decode cX8_share 46 = .ok (.iconst 2, 1) := by decide +kernel
theorem dX8_share_47 : decode cX8_share 47 = .ok (.iload_n 1, 1) := by decide +kernel
theorem dX8_share_48 : decode cX8_share 48 = .ok (.imul, 1) := by decide +kernel
theorem dX8_share_49 : decode cX8_share 49 = .ok (.iadd, 1) := by decide +kernel
theorem dX8_share_50 : decode cX8_share 50 = .ok (.iaload, 1) := by decide +kernel
theorem dX8_share_51 : decode cX8_share 51 = .ok (.imul, 1) := by decide +kernel
theorem dX8_share_52 : decode cX8_share 52 = .ok (.aload_n 0, 1) := by decide +kernel
theorem dX8_share_53 : decode cX8_share 53 = .ok (.getfield 7, 3) := by decide +kernel
theorem dX8_share_56 : decode cX8_share 56 = .ok (.iconst 3, 1) := by decide +kernel
theorem dX8_share_57 : decode cX8_share 57 = .ok (.iconst 2, 1) := by decide +kernel
theorem dX8_share_58 : decode cX8_share 58 = .ok (.iload_n 1, 1) := by decide +kernel
theorem dX8_share_59 : decode cX8_share 59 = .ok (.imul, 1) := by decide +kernel
theorem dX8_share_60 : decode cX8_share 60 = .ok (.iadd, 1) := by decide +kernel
theorem dX8_share_61 : decode cX8_share 61 = .ok (.iconst 1, 1) := by decide +kernel
theorem dX8_share_62 : decode cX8_share 62 = .ok (.iadd, 1) := by decide +kernel
theorem dX8_share_63 : decode cX8_share 63 = .ok (.iaload, 1) := by decide +kernel
theorem dX8_share_64 : decode cX8_share 64 = .ok (.idiv, 1) := by decide +kernel
theorem dX8_share_65 : decode cX8_share 65 = .ok (.goto 5, 3) := by decide +kernel
theorem dX8_share_68 : decode cX8_share 68 = .ok (.bipush (-4), 2) := by decide +kernel
theorem dX8_share_70 : decode cX8_share 70 = .ok (.ireturn, 1) := by decide +kernel
theorem dX8_walksWills_0 : decode cX8_walksWills 0 = .ok (.aload_n 0, 1) := by decide +kernel
theorem dX8_walksWills_1 : decode cX8_walksWills 1 = .ok (.getfield 7, 3) := by decide +kernel
theorem dX8_walksWills_4 : decode cX8_walksWills 4 = .ok (.iconst 0, 1) := by decide +kernel
theorem dX8_walksWills_5 : decode cX8_walksWills 5 = .ok (.iaload, 1) := by decide +kernel
theorem dX8_walksWills_6 : decode cX8_walksWills 6 = .ok (.iload_n 2, 1) := by decide +kernel
theorem dX8_walksWills_7 : decode cX8_walksWills 7 = .ok (.iadd, 1) := by decide +kernel
theorem dX8_walksWills_8 : decode cX8_walksWills 8 = .ok (.istore 4, 2) := by decide +kernel
theorem dX8_walksWills_10 : decode cX8_walksWills 10 = .ok (.aload_n 0, 1) := by decide +kernel
theorem dX8_walksWills_11 : decode cX8_walksWills 11 = .ok (.iconst 0, 1) := by decide +kernel
theorem dX8_walksWills_12 : decode cX8_walksWills 12 = .ok (.putfield 216, 3) := by decide +kernel
theorem dX8_walksWills_15 : decode cX8_walksWills 15 = .ok (.iconst 2, 1) := by decide +kernel
theorem dX8_walksWills_16 : decode cX8_walksWills 16 = .ok (.istore 5, 2) := by decide +kernel
theorem dX8_walksWills_18 : decode cX8_walksWills 18 = .ok (.iload 5, 2) := by decide +kernel
theorem dX8_walksWills_20 : decode cX8_walksWills 20 = .ok (.iload 4, 2) := by decide +kernel
theorem dX8_walksWills_22 : decode cX8_walksWills 22 = .ok (.if_icmp .gt 38, 3) := by decide +kernel
theorem dX8_walksWills_25 : decode cX8_walksWills 25 = .ok (.iload 4, 2) := by decide +kernel
theorem dX8_walksWills_27 : decode cX8_walksWills 27 = .ok (.iload 5, 2) := by decide +kernel
theorem dX8_walksWills_29 : decode cX8_walksWills 29 = .ok (.irem, 1) := by decide +kernel
theorem dX8_walksWills_30 : decode cX8_walksWills 30 = .ok (.ifCond .ne 24, 3) := by decide +kernel
theorem dX8_walksWills_33 : decode cX8_walksWills 33 = .ok (.aload_n 0, 1) := by decide +kernel
theorem dX8_walksWills_34 : decode cX8_walksWills 34 = .ok (.getfield 36, 3) := by decide +kernel
theorem dX8_walksWills_37 : decode cX8_walksWills 37 = .ok (.aload_n 0, 1) := by decide +kernel
theorem dX8_walksWills_38 : decode cX8_walksWills 38 = .ok (.getfield 216, 3) := by decide +kernel
theorem dX8_walksWills_41 : decode cX8_walksWills 41 = .ok (.iload 5, 2) := by decide +kernel
theorem dX8_walksWills_43 : decode cX8_walksWills 43 = .ok (.iastore, 1) := by decide +kernel
theorem dX8_walksWills_44 : decode cX8_walksWills 44 = .ok (.aload_n 0, 1) := by decide +kernel
theorem dX8_walksWills_45 : decode cX8_walksWills 45 = .ok (.dup, 1) := by decide +kernel
theorem dX8_walksWills_46 : decode cX8_walksWills 46 = .ok (.getfield 216, 3) := by decide +kernel
theorem dX8_walksWills_49 : decode cX8_walksWills 49 = .ok (.iconst 1, 1) := by decide +kernel
theorem dX8_walksWills_50 : decode cX8_walksWills 50 = .ok (.iadd, 1) := by decide +kernel
theorem dX8_walksWills_51 : decode cX8_walksWills 51 = .ok (.putfield 216, 3) := by decide +kernel
theorem dX8_walksWills_54 : decode cX8_walksWills 54 = .ok (.iinc 5 1, 3) := by decide +kernel
theorem dX8_walksWills_57 : decode cX8_walksWills 57 = .ok (.goto (-39), 3) := by decide +kernel
theorem dX8_walksWills_60 : decode cX8_walksWills 60 = .ok (.aload_n 0, 1) := by decide +kernel
theorem dX8_walksWills_61 : decode cX8_walksWills 61 = .ok (.iconst 0, 1) := by decide +kernel
theorem dX8_walksWills_62 : decode cX8_walksWills 62 = .ok (.putfield 219, 3) := by decide +kernel
theorem dX8_walksWills_65 : decode cX8_walksWills 65 = .ok (.aload_n 0, 1) := by decide +kernel
theorem dX8_walksWills_66 : decode cX8_walksWills 66 = .ok (.getfield 216, 3) := by decide +kernel
theorem dX8_walksWills_69 : decode cX8_walksWills 69 = .ok (.ifCond .ne 5, 3) := by decide +kernel
theorem dX8_walksWills_72 : decode cX8_walksWills 72 = .ok (.iconst 0, 1) := by decide +kernel
theorem dX8_walksWills_73 : decode cX8_walksWills 73 = .ok (.ireturn, 1) := by decide +kernel
theorem dX8_walksWills_74 : decode cX8_walksWills 74 = .ok (.iconst 0, 1) := by decide +kernel
theorem dX8_walksWills_75 : decode cX8_walksWills 75 = .ok (.istore 5, 2) := by decide +kernel
theorem dX8_walksWills_77 : decode cX8_walksWills 77 = .ok (.iload 5, 2) := by decide +kernel
theorem dX8_walksWills_79 : decode cX8_walksWills 79 = .ok (.iload_n 1, 1) := by decide +kernel
theorem dX8_walksWills_80 : decode cX8_walksWills 80 = .ok (.if_icmp .ge 17, 3) := by decide +kernel
theorem dX8_walksWills_83 : decode cX8_walksWills 83 = .ok (.aload_n 0, 1) := by decide +kernel
theorem dX8_walksWills_84 : decode cX8_walksWills 84 = .ok (.getfield 39, 3) := by decide +kernel
theorem dX8_walksWills_87 : decode cX8_walksWills 87 = .ok (.iload 5, 2) := by decide +kernel
theorem dX8_walksWills_89 : decode cX8_walksWills 89 = .ok (.iconst 0, 1) := by decide +kernel
theorem dX8_walksWills_90 : decode cX8_walksWills 90 = .ok (.iastore, 1) := by decide +kernel
theorem dX8_walksWills_91 : decode cX8_walksWills 91 = .ok (.iinc 5 1, 3) := by decide +kernel
theorem dX8_walksWills_94 : decode cX8_walksWills 94 = .ok (.goto (-17), 3) := by decide +kernel
theorem dX8_walksWills_97 : decode cX8_walksWills 97 = .ok (.iconst 1, 1) := by decide +kernel
theorem dX8_walksWills_98 : decode cX8_walksWills 98 = .ok (.istore 5, 2) := by decide +kernel
theorem dX8_walksWills_100 : decode cX8_walksWills 100 = .ok (.iload 5, 2) := by decide +kernel
theorem dX8_walksWills_102 : decode cX8_walksWills 102 = .ok (.ifCond .eq 167, 3) := by decide +kernel
theorem dX8_walksWills_105 : decode cX8_walksWills 105 = .ok (.iconst 0, 1) := by decide +kernel
theorem dX8_walksWills_106 : decode cX8_walksWills 106 = .ok (.istore 6, 2) := by decide +kernel
theorem dX8_walksWills_108 : decode cX8_walksWills 108 = .ok (.iconst 0, 1) := by decide +kernel
theorem dX8_walksWills_109 : decode cX8_walksWills 109 = .ok (.istore 7, 2) := by decide +kernel
theorem dX8_walksWills_111 : decode cX8_walksWills 111 = .ok (.iload 7, 2) := by decide +kernel
theorem dX8_walksWills_113 : decode cX8_walksWills 113 = .ok (.iload_n 1, 1) := by decide +kernel
theorem dX8_walksWills_114 : decode cX8_walksWills 114 = .ok (.if_icmp .ge 29, 3) := by decide +kernel
theorem dX8_walksWills_117 : decode cX8_walksWills 117 = .ok (.iload 6, 2) := by decide +kernel
theorem dX8_walksWills_119 : decode cX8_walksWills 119 = .ok (.iload 4, 2) := by decide +kernel
theorem dX8_walksWills_121 : decode cX8_walksWills 121 = .ok (.aload_n 0, 1) := by decide +kernel
theorem dX8_walksWills_122 : decode cX8_walksWills 122 = .ok (.getfield 36, 3) := by decide +kernel
theorem dX8_walksWills_125 : decode cX8_walksWills 125 = .ok (.aload_n 0, 1) := by decide +kernel
theorem dX8_walksWills_126 : decode cX8_walksWills 126 = .ok (.getfield 39, 3) := by decide +kernel
theorem dX8_walksWills_129 : decode cX8_walksWills 129 = .ok (.iload 7, 2) := by decide +kernel
theorem dX8_walksWills_131 : decode cX8_walksWills 131 = .ok (.iaload, 1) := by decide +kernel
theorem dX8_walksWills_132 : decode cX8_walksWills 132 = .ok (.iaload, 1) := by decide +kernel
theorem dX8_walksWills_133 : decode cX8_walksWills 133 = .ok (.idiv, 1) := by decide +kernel
theorem dX8_walksWills_134 : decode cX8_walksWills 134 = .ok (.iadd, 1) := by decide +kernel
theorem dX8_walksWills_135 : decode cX8_walksWills 135 = .ok (.istore 6, 2) := by decide +kernel
theorem dX8_walksWills_137 : decode cX8_walksWills 137 = .ok (.iinc 7 1, 3) := by decide +kernel
theorem dX8_walksWills_140 : decode cX8_walksWills 140 = .ok (.goto (-29), 3) := by decide +kernel
theorem dX8_walksWills_143 : decode cX8_walksWills 143 = .ok (.iload 6, 2) := by decide +kernel
theorem dX8_walksWills_145 : decode cX8_walksWills 145 = .ok (.aload_n 0, 1) := by decide +kernel
theorem dX8_walksWills_146 : decode cX8_walksWills 146 = .ok (.getfield 7, 3) := by decide +kernel
theorem dX8_walksWills_149 : decode cX8_walksWills 149 = .ok (.iconst 0, 1) := by decide +kernel
theorem dX8_walksWills_150 : decode cX8_walksWills 150 = .ok (.iaload, 1) := by decide +kernel
theorem dX8_walksWills_151 : decode cX8_walksWills 151 = .ok (.if_icmp .ne 23, 3) := by decide +kernel
theorem dX8_walksWills_154 : decode cX8_walksWills 154 = .ok (.aload_n 0, 1) := by decide +kernel
theorem dX8_walksWills_155 : decode cX8_walksWills 155 = .ok (.getfield 219, 3) := by decide +kernel
theorem dX8_walksWills_158 : decode cX8_walksWills 158 = .ok (.iload_n 3, 1) := by decide +kernel
theorem dX8_walksWills_159 : decode cX8_walksWills 159 = .ok (.if_icmp .ne 5, 3) := by decide +kernel
theorem dX8_walksWills_162 : decode cX8_walksWills 162 = .ok (.iconst 1, 1) := by decide +kernel
theorem dX8_walksWills_163 : decode cX8_walksWills 163 = .ok (.ireturn, 1) := by decide +kernel
theorem dX8_walksWills_164 : decode cX8_walksWills 164 = .ok (.aload_n 0, 1) := by decide +kernel
theorem dX8_walksWills_165 : decode cX8_walksWills 165 = .ok (.dup, 1) := by decide +kernel
theorem dX8_walksWills_166 : decode cX8_walksWills 166 = .ok (.getfield 219, 3) := by decide +kernel
theorem dX8_walksWills_169 : decode cX8_walksWills 169 = .ok (.iconst 1, 1) := by decide +kernel
theorem dX8_walksWills_170 : decode cX8_walksWills 170 = .ok (.iadd, 1) := by decide +kernel
theorem dX8_walksWills_171 : decode cX8_walksWills 171 = .ok (.putfield 219, 3) := by decide +kernel
theorem dX8_walksWills_174 : decode cX8_walksWills 174 = .ok (.iload_n 1, 1) := by decide +kernel
theorem dX8_walksWills_175 : decode cX8_walksWills 175 = .ok (.iconst 1, 1) := by decide +kernel
theorem dX8_walksWills_176 : decode cX8_walksWills 176 = .ok (.isub, 1) := by decide +kernel
theorem dX8_walksWills_177 : decode cX8_walksWills 177 = .ok (.istore 7, 2) := by decide +kernel
theorem dX8_walksWills_179 : decode cX8_walksWills 179 = .ok (.iload 7, 2) := by decide +kernel
theorem dX8_walksWills_181 : decode cX8_walksWills 181 = .ok (.ifCond .lt 25, 3) := by decide +kernel
theorem dX8_walksWills_184 : decode cX8_walksWills 184 = .ok (.aload_n 0, 1) := by decide +kernel
theorem dX8_walksWills_185 : decode cX8_walksWills 185 = .ok (.getfield 39, 3) := by decide +kernel
theorem dX8_walksWills_188 : decode cX8_walksWills 188 = .ok (.iload 7, 2) := by decide +kernel
theorem dX8_walksWills_190 : decode cX8_walksWills 190 = .ok (.iaload, 1) := by decide +kernel
theorem dX8_walksWills_191 : decode cX8_walksWills 191 = .ok (.aload_n 0, 1) := by decide +kernel
theorem dX8_walksWills_192 : decode cX8_walksWills 192 = .ok (.getfield 216, 3) := by decide +kernel
theorem dX8_walksWills_195 : decode cX8_walksWills 195 = .ok (.iconst 1, 1) := by decide +kernel
theorem dX8_walksWills_196 : decode cX8_walksWills 196 = .ok (.isub, 1) := by decide +kernel
theorem dX8_walksWills_197 : decode cX8_walksWills 197 = .ok (.if_icmp .ne 9, 3) := by decide +kernel
theorem dX8_walksWills_200 : decode cX8_walksWills 200 = .ok (.iinc 7 (-1), 3) := by decide +kernel
theorem dX8_walksWills_203 : decode cX8_walksWills 203 = .ok (.goto (-24), 3) := by decide +kernel
theorem dX8_walksWills_206 : decode cX8_walksWills 206 = .ok (.iload 7, 2) := by decide +kernel
theorem dX8_walksWills_208 : decode cX8_walksWills 208 = .ok (.ifCond .lt 7, 3) := by decide +kernel
theorem dX8_walksWills_211 : decode cX8_walksWills 211 = .ok (.iconst 1, 1) := by decide +kernel
theorem dX8_walksWills_212 : decode cX8_walksWills 212 = .ok (.goto 4, 3) := by decide +kernel
theorem dX8_walksWills_215 : decode cX8_walksWills 215 = .ok (.iconst 0, 1) := by decide +kernel
theorem dX8_walksWills_216 : decode cX8_walksWills 216 = .ok (.istore 5, 2) := by decide +kernel
theorem dX8_walksWills_218 : decode cX8_walksWills 218 = .ok (.iload 5, 2) := by decide +kernel
theorem dX8_walksWills_220 : decode cX8_walksWills 220 = .ok (.ifCond .eq 46, 3) := by decide +kernel
theorem dX8_walksWills_223 : decode cX8_walksWills 223 = .ok (.aload_n 0, 1) := by decide +kernel
theorem dX8_walksWills_224 : decode cX8_walksWills 224 = .ok (.getfield 39, 3) := by decide +kernel
theorem dX8_walksWills_227 : decode cX8_walksWills 227 = .ok (.iload 7, 2) := by decide +kernel
theorem dX8_walksWills_229 : decode cX8_walksWills 229 = .ok (.dup2, 1) := by decide +kernel
theorem dX8_walksWills_230 : decode cX8_walksWills 230 = .ok (.iaload, 1) := by decide +kernel
theorem dX8_walksWills_231 : decode cX8_walksWills 231 = .ok (.iconst 1, 1) := by decide +kernel
theorem dX8_walksWills_232 : decode cX8_walksWills 232 = .ok (.iadd, 1) := by decide +kernel
theorem dX8_walksWills_233 : decode cX8_walksWills 233 = .ok (.iastore, 1) := by decide +kernel
theorem dX8_walksWills_234 : decode cX8_walksWills 234 = .ok (.iload 7, 2) := by decide +kernel
theorem dX8_walksWills_236 : decode cX8_walksWills 236 = .ok (.iconst 1, 1) := by decide +kernel
theorem dX8_walksWills_237 : decode cX8_walksWills 237 = .ok (.iadd, 1) := by decide +kernel
theorem dX8_walksWills_238 : decode cX8_walksWills 238 = .ok (.istore 8, 2) := by decide +kernel
theorem dX8_walksWills_240 : decode cX8_walksWills 240 = .ok (.iload 8, 2) := by decide +kernel
theorem dX8_walksWills_242 : decode cX8_walksWills 242 = .ok (.iload_n 1, 1) := by decide +kernel
theorem dX8_walksWills_243 : decode cX8_walksWills 243 = .ok (.if_icmp .ge 23, 3) := by decide +kernel
theorem dX8_walksWills_246 : decode cX8_walksWills 246 = .ok (.aload_n 0, 1) := by decide +kernel
theorem dX8_walksWills_247 : decode cX8_walksWills 247 = .ok (.getfield 39, 3) := by decide +kernel
theorem dX8_walksWills_250 : decode cX8_walksWills 250 = .ok (.iload 8, 2) := by decide +kernel
theorem dX8_walksWills_252 : decode cX8_walksWills 252 = .ok (.aload_n 0, 1) := by decide +kernel
theorem dX8_walksWills_253 : decode cX8_walksWills 253 = .ok (.getfield 39, 3) := by decide +kernel
theorem dX8_walksWills_256 : decode cX8_walksWills 256 = .ok (.iload 7, 2) := by decide +kernel
theorem dX8_walksWills_258 : decode cX8_walksWills 258 = .ok (.iaload, 1) := by decide +kernel
theorem dX8_walksWills_259 : decode cX8_walksWills 259 = .ok (.iastore, 1) := by decide +kernel
theorem dX8_walksWills_260 : decode cX8_walksWills 260 = .ok (.iinc 8 1, 3) := by decide +kernel
theorem dX8_walksWills_263 : decode cX8_walksWills 263 = .ok (.goto (-23), 3) := by decide +kernel
theorem dX8_walksWills_266 : decode cX8_walksWills 266 = .ok (.goto (-166), 3) := by decide +kernel
theorem dX8_walksWills_269 : decode cX8_walksWills 269 = .ok (.iconst 0, 1) := by decide +kernel
theorem dX8_walksWills_270 : decode cX8_walksWills 270 = .ok (.ireturn, 1) := by decide +kernel
theorem dX8_isWill_0 : decode cX8_isWill 0 = .ok (.iload_n 0, 1) := by decide +kernel
theorem dX8_isWill_1 : decode cX8_isWill 1 = .ok (.i2l, 1) := by decide +kernel
theorem dX8_isWill_2 : decode cX8_isWill 2 = .ok (.lconst 1, 1) := by decide +kernel
theorem dX8_isWill_3 : decode cX8_isWill 3 = .ok (.ldc2_w 222, 3) := by decide +kernel
theorem dX8_isWill_6 : decode cX8_isWill 6 = .ok (.invokestatic 75, 3) := by decide +kernel
theorem dX8_isWill_9 : decode cX8_isWill 9 = .ok (.ifCond .eq 19, 3) := by decide +kernel
theorem dX8_isWill_12 : decode cX8_isWill 12 = .ok (.iload_n 1, 1) := by decide +kernel
theorem dX8_isWill_13 : decode cX8_isWill 13 = .ok (.i2l, 1) := by decide +kernel
theorem dX8_isWill_14 : decode cX8_isWill 14 = .ok (.lconst 0, 1) := by decide +kernel
theorem dX8_isWill_15 : decode cX8_isWill 15 = .ok (.ldc2_w 198, 3) := by decide +kernel
theorem dX8_isWill_18 : decode cX8_isWill 18 = .ok (.invokestatic 75, 3) := by decide +kernel
theorem dX8_isWill_21 : decode cX8_isWill 21 = .ok (.ifCond .eq 7, 3) := by decide +kernel
theorem dX8_isWill_24 : decode cX8_isWill 24 = .ok (.iconst 1, 1) := by decide +kernel
theorem dX8_isWill_25 : decode cX8_isWill 25 = .ok (.goto 4, 3) := by decide +kernel
theorem dX8_isWill_28 : decode cX8_isWill 28 = .ok (.iconst 0, 1) := by decide +kernel
theorem dX8_isWill_29 : decode cX8_isWill 29 = .ok (.ireturn, 1) := by decide +kernel
theorem dX8_wills_0 : decode cX8_wills 0 = .ok (.iload_n 1, 1) := by decide +kernel
theorem dX8_wills_1 : decode cX8_wills 1 = .ok (.iload_n 2, 1) := by decide +kernel
theorem dX8_wills_2 : decode cX8_wills 2 = .ok (.invokestatic 224, 3) := by decide +kernel
theorem dX8_wills_5 : decode cX8_wills 5 = .ok (.ifCond .ne 5, 3) := by decide +kernel
theorem dX8_wills_8 : decode cX8_wills 8 = .ok (.iconst (-1), 1) := by decide +kernel
theorem dX8_wills_9 : decode cX8_wills 9 = .ok (.ireturn, 1) := by decide +kernel
theorem dX8_wills_10 : decode cX8_wills 10 = .ok (.aload_n 0, 1) := by decide +kernel
theorem dX8_wills_11 : decode cX8_wills 11 = .ok (.iload_n 1, 1) := by decide +kernel
theorem dX8_wills_12 : decode cX8_wills 12 = .ok (.iload_n 2, 1) := by decide +kernel
theorem dX8_wills_13 : decode cX8_wills 13 = .ok (.bipush (-4), 2) := by decide +kernel
theorem dX8_wills_15 : decode cX8_wills 15 = .ok (.invokevirtual 227, 3) := by decide +kernel
theorem dX8_wills_18 : decode cX8_wills 18 = .ok (.pop, 1) := by decide +kernel
theorem dX8_wills_19 : decode cX8_wills 19 = .ok (.aload_n 0, 1) := by decide +kernel
theorem dX8_wills_20 : decode cX8_wills 20 = .ok (.getfield 219, 3) := by decide +kernel
theorem dX8_wills_23 : decode cX8_wills 23 = .ok (.ireturn, 1) := by decide +kernel
theorem dX8_will_0 : decode cX8_will 0 = .ok (.iload_n 1, 1) := by decide +kernel
theorem dX8_will_1 : decode cX8_will 1 = .ok (.iload_n 2, 1) := by decide +kernel
theorem dX8_will_2 : decode cX8_will 2 = .ok (.invokestatic 224, 3) := by decide +kernel
theorem dX8_will_5 : decode cX8_will 5 = .ok (.ifCond .eq 21, 3) := by decide +kernel
theorem dX8_will_8 : decode cX8_will 8 = .ok (.iload_n 3, 1) := by decide +kernel
theorem dX8_will_9 : decode cX8_will 9 = .ok (.ifCond .lt 17, 3) := by decide +kernel
theorem dX8_will_12 : decode cX8_will 12 = .ok (.iload 4, 2) := by decide +kernel
theorem dX8_will_14 : decode cX8_will 14 = .ok (.i2l, 1) := by decide +kernel
theorem dX8_will_15 : decode cX8_will 15 = .ok (.lconst 0, 1) := by decide +kernel
theorem dX8_will_16 : decode cX8_will 16 = .ok (.iload_n 1, 1) := by decide +kernel
theorem dX8_will_17 : decode cX8_will 17 = .ok (.iconst 1, 1) := by decide +kernel
theorem dX8_will_18 : decode cX8_will 18 = .ok (.isub, 1) := by decide +kernel
theorem dX8_will_19 : decode cX8_will 19 = .ok (.i2l, 1) := by decide +kernel
theorem dX8_will_20 : decode cX8_will 20 = .ok (.invokestatic 75, 3) := by decide +kernel
theorem dX8_will_23 : decode cX8_will 23 = .ok (.ifCond .ne 5, 3) := by decide +kernel
theorem dX8_will_26 : decode cX8_will 26 = .ok (.iconst (-1), 1) := by decide +kernel
theorem dX8_will_27 : decode cX8_will 27 = .ok (.ireturn, 1) := by decide +kernel
theorem dX8_will_28 : decode cX8_will 28 = .ok (.aload_n 0, 1) := by decide +kernel
theorem dX8_will_29 : decode cX8_will 29 = .ok (.iload_n 1, 1) := by decide +kernel
theorem dX8_will_30 : decode cX8_will 30 = .ok (.iload_n 2, 1) := by decide +kernel
theorem dX8_will_31 : decode cX8_will 31 = .ok (.iload_n 3, 1) := by decide +kernel
theorem dX8_will_32 : decode cX8_will 32 = .ok (.invokevirtual 227, 3) := by decide +kernel
theorem dX8_will_35 : decode cX8_will 35 = .ok (.ifCond .eq 18, 3) := by decide +kernel
theorem dX8_will_38 : decode cX8_will 38 = .ok (.aload_n 0, 1) := by decide +kernel
theorem dX8_will_39 : decode cX8_will 39 = .ok (.getfield 36, 3) := by decide +kernel
theorem dX8_will_42 : decode cX8_will 42 = .ok (.aload_n 0, 1) := by decide +kernel
theorem dX8_will_43 : decode cX8_will 43 = .ok (.getfield 39, 3) := by decide +kernel
theorem dX8_will_46 : decode cX8_will 46 = .ok (.iload 4, 2) := by decide +kernel
theorem dX8_will_48 : decode cX8_will 48 = .ok (.iaload, 1) := by decide +kernel
theorem dX8_will_49 : decode cX8_will 49 = .ok (.iaload, 1) := by decide +kernel
theorem dX8_will_50 : decode cX8_will 50 = .ok (.goto 5, 3) := by decide +kernel
theorem dX8_will_53 : decode cX8_will 53 = .ok (.bipush (-4), 2) := by decide +kernel
theorem dX8_will_55 : decode cX8_will 55 = .ok (.ireturn, 1) := by decide +kernel
theorem dX8_by_0 : decode cX8_by 0 = .ok (.iload_n 1, 1) := by decide +kernel
theorem dX8_by_1 : decode cX8_by 1 = .ok (.invokestatic 207, 3) := by decide +kernel
theorem dX8_by_4 : decode cX8_by 4 = .ok (.ifCond .eq 11, 3) := by decide +kernel
theorem dX8_by_7 : decode cX8_by 7 = .ok (.aload_n 0, 1) := by decide +kernel
theorem dX8_by_8 : decode cX8_by 8 = .ok (.iload_n 2, 1) := by decide +kernel
theorem dX8_by_9 : decode cX8_by 9 = .ok (.invokevirtual 177, 3) := by decide +kernel
theorem dX8_by_12 : decode cX8_by 12 = .ok (.ifCond .ne 5, 3) := by decide +kernel
theorem dX8_by_15 : decode cX8_by 15 = .ok (.iconst (-1), 1) := by decide +kernel
theorem dX8_by_16 : decode cX8_by 16 = .ok (.ireturn, 1) := by decide +kernel
theorem dX8_by_17 : decode cX8_by 17 = .ok (.aload_n 0, 1) := by decide +kernel
theorem dX8_by_18 : decode cX8_by 18 = .ok (.invokevirtual 168, 3) := by decide +kernel
theorem dX8_by_21 : decode cX8_by 21 = .ok (.aload_n 0, 1) := by decide +kernel
theorem dX8_by_22 : decode cX8_by 22 = .ok (.aload_n 0, 1) := by decide +kernel
theorem dX8_by_23 : decode cX8_by 23 = .ok (.getfield 7, 3) := by decide +kernel
theorem dX8_by_26 : decode cX8_by 26 = .ok (.iconst 0, 1) := by decide +kernel
theorem dX8_by_27 : decode cX8_by 27 = .ok (.iaload, 1) := by decide +kernel
theorem dX8_by_28 : decode cX8_by 28 = .ok (.iload_n 1, 1) := by decide +kernel
theorem dX8_by_29 : decode cX8_by 29 = .ok (.invokevirtual 161, 3) := by decide +kernel
theorem dX8_by_32 : decode cX8_by 32 = .ok (.aload_n 0, 1) := by decide +kernel
theorem dX8_by_33 : decode cX8_by 33 = .ok (.getfield 30, 3) := by decide +kernel
theorem dX8_by_36 : decode cX8_by 36 = .ok (.iload_n 2, 1) := by decide +kernel
theorem dX8_by_37 : decode cX8_by 37 = .ok (.iaload, 1) := by decide +kernel
theorem dX8_by_38 : decode cX8_by 38 = .ok (.ireturn, 1) := by decide +kernel
theorem dX8_of_0 : decode cX8_of 0 = .ok (.iload_n 1, 1) := by decide +kernel
theorem dX8_of_1 : decode cX8_of 1 = .ok (.i2l, 1) := by decide +kernel
theorem dX8_of_2 : decode cX8_of 2 = .ok (.lconst 0, 1) := by decide +kernel
theorem dX8_of_3 : decode cX8_of 3 = .ok (.ldc2_w 205, 3) := by decide +kernel
theorem dX8_of_6 : decode cX8_of 6 = .ok (.invokestatic 75, 3) := by decide +kernel
theorem dX8_of_9 : decode cX8_of 9 = .ok (.ifCond .eq 11, 3) := by decide +kernel
theorem dX8_of_12 : decode cX8_of 12 = .ok (.aload_n 0, 1) := by decide +kernel
theorem dX8_of_13 : decode cX8_of 13 = .ok (.iload_n 2, 1) := by decide +kernel
theorem dX8_of_14 : decode cX8_of 14 = .ok (.invokevirtual 177, 3) := by decide +kernel
theorem dX8_of_17 : decode cX8_of 17 = .ok (.ifCond .ne 5, 3) := by decide +kernel
theorem dX8_of_20 : decode cX8_of 20 = .ok (.iconst (-1), 1) := by decide +kernel
theorem dX8_of_21 : decode cX8_of 21 = .ok (.ireturn, 1) := by decide +kernel
theorem dX8_of_22 : decode cX8_of 22 = .ok (.aload_n 0, 1) := by decide +kernel
theorem dX8_of_23 : decode cX8_of 23 = .ok (.invokevirtual 168, 3) := by decide +kernel
theorem dX8_of_26 : decode cX8_of 26 = .ok (.aload_n 0, 1) := by decide +kernel
theorem dX8_of_27 : decode cX8_of 27 = .ok (.iload_n 1, 1) := by decide +kernel
theorem dX8_of_28 : decode cX8_of 28 = .ok (.aload_n 0, 1) := by decide +kernel
theorem dX8_of_29 : decode cX8_of 29 = .ok (.getfield 7, 3) := by decide +kernel
theorem dX8_of_32 : decode cX8_of 32 = .ok (.iconst 2, 1) := by decide +kernel
theorem dX8_of_33 : decode cX8_of 33 = .ok (.iaload, 1) := by decide +kernel
theorem dX8_of_34 : decode cX8_of 34 = .ok (.invokevirtual 161, 3) := by decide +kernel
theorem dX8_of_37 : decode cX8_of 37 = .ok (.aload_n 0, 1) := by decide +kernel
theorem dX8_of_38 : decode cX8_of 38 = .ok (.getfield 30, 3) := by decide +kernel
theorem dX8_of_41 : decode cX8_of 41 = .ok (.iload_n 2, 1) := by decide +kernel
theorem dX8_of_42 : decode cX8_of 42 = .ok (.iaload, 1) := by decide +kernel
theorem dX8_of_43 : decode cX8_of 43 = .ok (.ireturn, 1) := by decide +kernel
theorem dX8_remembers_0 : decode cX8_remembers 0 = .ok (.iconst 0, 1) := by decide +kernel
theorem dX8_remembers_1 : decode cX8_remembers 1 = .ok (.istore_n 1, 1) := by decide +kernel
theorem dX8_remembers_2 : decode cX8_remembers 2 = .ok (.iload_n 1, 1) := by decide +kernel
theorem dX8_remembers_3 : decode cX8_remembers 3 = .ok (.iconst 5, 1) := by decide +kernel
theorem dX8_remembers_4 : decode cX8_remembers 4 = .ok (.if_icmp .ge 21, 3) := by decide +kernel
theorem dX8_remembers_7 : decode cX8_remembers 7 = .ok (.aload_n 0, 1) := by decide +kernel
theorem dX8_remembers_8 : decode cX8_remembers 8 = .ok (.getfield 42, 3) := by decide +kernel
theorem dX8_remembers_11 : decode cX8_remembers 11 = .ok (.iload_n 1, 1) := by decide +kernel
theorem dX8_remembers_12 : decode cX8_remembers 12 = .ok (.aload_n 0, 1) := by decide +kernel
theorem dX8_remembers_13 : decode cX8_remembers 13 = .ok (.getfield 30, 3) := by decide +kernel
theorem dX8_remembers_16 : decode cX8_remembers 16 = .ok (.iload_n 1, 1) := by decide +kernel
theorem dX8_remembers_17 : decode cX8_remembers 17 = .ok (.iaload, 1) := by decide +kernel
theorem dX8_remembers_18 : decode cX8_remembers 18 = .ok (.iastore, 1) := by decide +kernel
theorem dX8_remembers_19 : decode cX8_remembers 19 = .ok (.iinc 1 1, 3) := by decide +kernel
theorem dX8_remembers_22 : decode cX8_remembers 22 = .ok (.goto (-20), 3) := by decide +kernel
theorem dX8_remembers_25 : decode cX8_remembers 25 = .ok (.return_, 1) := by decide +kernel
theorem dX8_loses_0 : decode cX8_loses 0 = .ok (.iload_n 1, 1) := by decide +kernel
theorem dX8_loses_1 : decode cX8_loses 1 = .ok (.i2l, 1) := by decide +kernel
theorem dX8_loses_2 : decode cX8_loses 2 = .ok (.lconst 0, 1) := by decide +kernel
theorem dX8_loses_3 : decode cX8_loses 3 = .ok (.ldc2_w 231, 3) := by decide +kernel
theorem dX8_loses_6 : decode cX8_loses 6 = .ok (.invokestatic 75, 3) := by decide +kernel
theorem dX8_loses_9 : decode cX8_loses 9 = .ok (.ifCond .eq 10, 3) := by decide +kernel
theorem dX8_loses_12 : decode cX8_loses 12 = .ok (.iload_n 2, 1) := by decide +kernel
theorem dX8_loses_13 : decode cX8_loses 13 = .ok (.invokestatic 189, 3) := by decide +kernel
theorem dX8_loses_16 : decode cX8_loses 16 = .ok (.ifCond .ne 5, 3) := by decide +kernel
theorem dX8_loses_19 : decode cX8_loses 19 = .ok (.iconst (-1), 1) := by decide +kernel
theorem dX8_loses_20 : decode cX8_loses 20 = .ok (.ireturn, 1) := by decide +kernel
theorem dX8_loses_21 : decode cX8_loses 21 = .ok (.aload_n 0, 1) := by decide +kernel
theorem dX8_loses_22 : decode cX8_loses 22 = .ok (.invokevirtual 168, 3) := by decide +kernel
theorem dX8_loses_25 : decode cX8_loses 25 = .ok (.aload_n 0, 1) := by decide +kernel
theorem dX8_loses_26 : decode cX8_loses 26 = .ok (.iconst 0, 1) := by decide +kernel
theorem dX8_loses_27 : decode cX8_loses 27 = .ok (.aload_n 0, 1) := by decide +kernel
theorem dX8_loses_28 : decode cX8_loses 28 = .ok (.getfield 13, 3) := by decide +kernel
theorem dX8_loses_31 : decode cX8_loses 31 = .ok (.iconst 2, 1) := by decide +kernel
theorem dX8_loses_32 : decode cX8_loses 32 = .ok (.iaload, 1) := by decide +kernel
theorem dX8_loses_33 : decode cX8_loses 33 = .ok (.invokevirtual 161, 3) := by decide +kernel
theorem dX8_loses_36 : decode cX8_loses 36 = .ok (.iconst 0, 1) := by decide +kernel
theorem dX8_loses_37 : decode cX8_loses 37 = .ok (.istore_n 3, 1) := by decide +kernel
theorem dX8_loses_38 : decode cX8_loses 38 = .ok (.iload_n 3, 1) := by decide +kernel
theorem dX8_loses_39 : decode cX8_loses 39 = .ok (.iload_n 1, 1) := by decide +kernel
theorem dX8_loses_40 : decode cX8_loses 40 = .ok (.if_icmp .gt 74, 3) := by decide +kernel
theorem dX8_loses_43 : decode cX8_loses 43 = .ok (.aload_n 0, 1) := by decide +kernel
theorem dX8_loses_44 : decode cX8_loses 44 = .ok (.invokevirtual 233, 3) := by decide +kernel
theorem dX8_loses_47 : decode cX8_loses 47 = .ok (.aload_n 0, 1) := by decide +kernel
theorem dX8_loses_48 : decode cX8_loses 48 = .ok (.iload_n 3, 1) := by decide +kernel
theorem dX8_loses_49 : decode cX8_loses 49 = .ok (.iconst 1, 1) := by decide +kernel
theorem dX8_loses_50 : decode cX8_loses 50 = .ok (.iadd, 1) := by decide +kernel
theorem dX8_loses_51 : decode cX8_loses 51 = .ok (.aload_n 0, 1) := by decide +kernel
theorem dX8_loses_52 : decode cX8_loses 52 = .ok (.getfield 13, 3) := by decide +kernel
theorem dX8_loses_55 : decode cX8_loses 55 = .ok (.iconst 2, 1) := by decide +kernel
theorem dX8_loses_56 : decode cX8_loses 56 = .ok (.iaload, 1) := by decide +kernel
theorem dX8_loses_57 : decode cX8_loses 57 = .ok (.invokevirtual 161, 3) := by decide +kernel
theorem dX8_loses_60 : decode cX8_loses 60 = .ok (.iconst 0, 1) := by decide +kernel
theorem dX8_loses_61 : decode cX8_loses 61 = .ok (.istore 4, 2) := by decide +kernel
theorem dX8_loses_63 : decode cX8_loses 63 = .ok (.iload 4, 2) := by decide +kernel
theorem dX8_loses_65 : decode cX8_loses 65 = .ok (.aload_n 0, 1) := by decide +kernel
theorem dX8_loses_66 : decode cX8_loses 66 = .ok (.getfield 13, 3) := by decide +kernel
theorem dX8_loses_69 : decode cX8_loses 69 = .ok (.iconst 1, 1) := by decide +kernel
theorem dX8_loses_70 : decode cX8_loses 70 = .ok (.iaload, 1) := by decide +kernel
theorem dX8_loses_71 : decode cX8_loses 71 = .ok (.if_icmp .ge 37, 3) := by decide +kernel
theorem dX8_loses_74 : decode cX8_loses 74 = .ok (.aload_n 0, 1) := by decide +kernel
theorem dX8_loses_75 : decode cX8_loses 75 = .ok (.getfield 30, 3) := by decide +kernel
theorem dX8_loses_78 : decode cX8_loses 78 = .ok (.iload 4, 2) := by decide +kernel
theorem dX8_loses_80 : decode cX8_loses 80 = .ok (.iaload, 1) := by decide +kernel
theorem dX8_loses_81 : decode cX8_loses 81 = .ok (.aload_n 0, 1) := by decide +kernel
theorem dX8_loses_82 : decode cX8_loses 82 = .ok (.getfield 42, 3) := by decide +kernel
theorem dX8_loses_85 : decode cX8_loses 85 = .ok (.iload 4, 2) := by decide +kernel
theorem dX8_loses_87 : decode cX8_loses 87 = .ok (.iaload, 1) := by decide +kernel
theorem dX8_loses_88 : decode cX8_loses 88 = .ok (.if_icmp .ge 14, 3) := by decide +kernel
theorem dX8_loses_91 : decode cX8_loses 91 = .ok (.iload_n 2, 1) := by decide +kernel
theorem dX8_loses_92 : decode cX8_loses 92 = .ok (.ifCond .ne 7, 3) := by decide +kernel
theorem dX8_loses_95 : decode cX8_loses 95 = .ok (.iload_n 3, 1) := by decide +kernel
theorem dX8_loses_96 : decode cX8_loses 96 = .ok (.goto 5, 3) := by decide +kernel
theorem dX8_loses_99 : decode cX8_loses 99 = .ok (.iload 4, 2) := by decide +kernel
theorem dX8_loses_101 : decode cX8_loses 101 = .ok (.ireturn, 1) := by decide +kernel
theorem dX8_loses_102 : decode cX8_loses 102 = .ok (.iinc 4 1, 3) := by decide +kernel
theorem dX8_loses_105 : decode cX8_loses 105 = .ok (.goto (-42), 3) := by decide +kernel
theorem dX8_loses_108 : decode cX8_loses 108 = .ok (.iinc 3 1, 3) := by decide +kernel
theorem dX8_loses_111 : decode cX8_loses 111 = .ok (.goto (-73), 3) := by decide +kernel
theorem dX8_loses_114 : decode cX8_loses 114 = .ok (.bipush (-4), 2) := by decide +kernel
theorem dX8_loses_116 : decode cX8_loses 116 = .ok (.ireturn, 1) := by decide +kernel
theorem dX8_keeps_0 : decode cX8_keeps 0 = .ok (.iload_n 1, 1) := by decide +kernel
theorem dX8_keeps_1 : decode cX8_keeps 1 = .ok (.i2l, 1) := by decide +kernel
theorem dX8_keeps_2 : decode cX8_keeps 2 = .ok (.lconst 0, 1) := by decide +kernel
theorem dX8_keeps_3 : decode cX8_keeps 3 = .ok (.ldc2_w 231, 3) := by decide +kernel
theorem dX8_keeps_6 : decode cX8_keeps 6 = .ok (.invokestatic 75, 3) := by decide +kernel
theorem dX8_keeps_9 : decode cX8_keeps 9 = .ok (.ifCond .eq 10, 3) := by decide +kernel
theorem dX8_keeps_12 : decode cX8_keeps 12 = .ok (.iload_n 2, 1) := by decide +kernel
theorem dX8_keeps_13 : decode cX8_keeps 13 = .ok (.invokestatic 189, 3) := by decide +kernel
theorem dX8_keeps_16 : decode cX8_keeps 16 = .ok (.ifCond .ne 5, 3) := by decide +kernel
theorem dX8_keeps_19 : decode cX8_keeps 19 = .ok (.iconst (-1), 1) := by decide +kernel
theorem dX8_keeps_20 : decode cX8_keeps 20 = .ok (.ireturn, 1) := by decide +kernel
theorem dX8_keeps_21 : decode cX8_keeps 21 = .ok (.aload_n 0, 1) := by decide +kernel
theorem dX8_keeps_22 : decode cX8_keeps 22 = .ok (.invokevirtual 168, 3) := by decide +kernel
theorem dX8_keeps_25 : decode cX8_keeps 25 = .ok (.iconst 0, 1) := by decide +kernel
theorem dX8_keeps_26 : decode cX8_keeps 26 = .ok (.istore_n 3, 1) := by decide +kernel
theorem dX8_keeps_27 : decode cX8_keeps 27 = .ok (.iload_n 3, 1) := by decide +kernel
theorem dX8_keeps_28 : decode cX8_keeps 28 = .ok (.iload_n 1, 1) := by decide +kernel
theorem dX8_keeps_29 : decode cX8_keeps 29 = .ok (.if_icmp .gt 45, 3) := by decide +kernel
theorem dX8_keeps_32 : decode cX8_keeps 32 = .ok (.aload_n 0, 1) := by decide +kernel
theorem dX8_keeps_33 : decode cX8_keeps 33 = .ok (.iload_n 3, 1) := by decide +kernel
theorem dX8_keeps_34 : decode cX8_keeps 34 = .ok (.aload_n 0, 1) := by decide +kernel
theorem dX8_keeps_35 : decode cX8_keeps 35 = .ok (.getfield 13, 3) := by decide +kernel
theorem dX8_keeps_38 : decode cX8_keeps 38 = .ok (.iconst 2, 1) := by decide +kernel
theorem dX8_keeps_39 : decode cX8_keeps 39 = .ok (.iaload, 1) := by decide +kernel
theorem dX8_keeps_40 : decode cX8_keeps 40 = .ok (.invokevirtual 161, 3) := by decide +kernel
theorem dX8_keeps_43 : decode cX8_keeps 43 = .ok (.aload_n 0, 1) := by decide +kernel
theorem dX8_keeps_44 : decode cX8_keeps 44 = .ok (.iload_n 3, 1) := by decide +kernel
theorem dX8_keeps_45 : decode cX8_keeps 45 = .ok (.invokevirtual 236, 3) := by decide +kernel
theorem dX8_keeps_48 : decode cX8_keeps 48 = .ok (.istore 4, 2) := by decide +kernel
theorem dX8_keeps_50 : decode cX8_keeps 50 = .ok (.iload 4, 2) := by decide +kernel
theorem dX8_keeps_52 : decode cX8_keeps 52 = .ok (.bipush (-4), 2) := by decide +kernel
theorem dX8_keeps_54 : decode cX8_keeps 54 = .ok (.if_icmp .eq 14, 3) := by decide +kernel
theorem dX8_keeps_57 : decode cX8_keeps 57 = .ok (.iload_n 2, 1) := by decide +kernel
theorem dX8_keeps_58 : decode cX8_keeps 58 = .ok (.ifCond .ne 7, 3) := by decide +kernel
theorem dX8_keeps_61 : decode cX8_keeps 61 = .ok (.iload_n 3, 1) := by decide +kernel
theorem dX8_keeps_62 : decode cX8_keeps 62 = .ok (.goto 5, 3) := by decide +kernel
theorem dX8_keeps_65 : decode cX8_keeps 65 = .ok (.iload 4, 2) := by decide +kernel
theorem dX8_keeps_67 : decode cX8_keeps 67 = .ok (.ireturn, 1) := by decide +kernel
theorem dX8_keeps_68 : decode cX8_keeps 68 = .ok (.iinc 3 1, 3) := by decide +kernel
theorem dX8_keeps_71 : decode cX8_keeps 71 = .ok (.goto (-44), 3) := by decide +kernel
theorem dX8_keeps_74 : decode cX8_keeps 74 = .ok (.bipush (-4), 2) := by decide +kernel
theorem dX8_keeps_76 : decode cX8_keeps 76 = .ok (.ireturn, 1) := by decide +kernel
theorem dX8_unlike_0 : decode cX8_unlike 0 = .ok (.iload_n 1, 1) := by decide +kernel
theorem dX8_unlike_1 : decode cX8_unlike 1 = .ok (.invokestatic 207, 3) := by decide +kernel
theorem dX8_unlike_4 : decode cX8_unlike 4 = .ok (.ifCond .eq 15, 3) := by decide +kernel
theorem dX8_unlike_7 : decode cX8_unlike 7 = .ok (.iload_n 2, 1) := by decide +kernel
theorem dX8_unlike_8 : decode cX8_unlike 8 = .ok (.invokestatic 207, 3) := by decide +kernel
theorem dX8_unlike_11 : decode cX8_unlike 11 = .ok (.ifCond .eq 8, 3) := by decide +kernel
theorem dX8_unlike_14 : decode cX8_unlike 14 = .ok (.iload_n 1, 1) := by decide +kernel
theorem dX8_unlike_15 : decode cX8_unlike 15 = .ok (.iload_n 2, 1) := by decide +kernel
theorem dX8_unlike_16 : decode cX8_unlike 16 = .ok (.if_icmp .ne 5, 3) := by decide +kernel
theorem dX8_unlike_19 : decode cX8_unlike 19 = .ok (.iconst (-1), 1) := by decide +kernel
theorem dX8_unlike_20 : decode cX8_unlike 20 = .ok (.ireturn, 1) := by decide +kernel
theorem dX8_unlike_21 : decode cX8_unlike 21 = .ok (.aload_n 0, 1) := by decide +kernel
theorem dX8_unlike_22 : decode cX8_unlike 22 = .ok (.invokevirtual 168, 3) := by decide +kernel
theorem dX8_unlike_25 : decode cX8_unlike 25 = .ok (.iconst 0, 1) := by decide +kernel
theorem dX8_unlike_26 : decode cX8_unlike 26 = .ok (.istore_n 3, 1) := by decide +kernel
theorem dX8_unlike_27 : decode cX8_unlike 27 = .ok (.iload_n 3, 1) := by decide +kernel
theorem dX8_unlike_28 : decode cX8_unlike 28 = .ok (.sipush 200, 3) := by decide +kernel
theorem dX8_unlike_31 : decode cX8_unlike 31 = .ok (.if_icmp .gt 84, 3) := by decide +kernel
theorem dX8_unlike_34 : decode cX8_unlike 34 = .ok (.aload_n 0, 1) := by decide +kernel
theorem dX8_unlike_35 : decode cX8_unlike 35 = .ok (.iload_n 3, 1) := by decide +kernel
theorem dX8_unlike_36 : decode cX8_unlike 36 = .ok (.iload_n 1, 1) := by decide +kernel
theorem dX8_unlike_37 : decode cX8_unlike 37 = .ok (.invokevirtual 161, 3) := by decide +kernel
theorem dX8_unlike_40 : decode cX8_unlike 40 = .ok (.aload_n 0, 1) := by decide +kernel
theorem dX8_unlike_41 : decode cX8_unlike 41 = .ok (.invokevirtual 233, 3) := by decide +kernel
theorem dX8_unlike_44 : decode cX8_unlike 44 = .ok (.aload_n 0, 1) := by decide +kernel
theorem dX8_unlike_45 : decode cX8_unlike 45 = .ok (.iload_n 3, 1) := by decide +kernel
theorem dX8_unlike_46 : decode cX8_unlike 46 = .ok (.iload_n 2, 1) := by decide +kernel
theorem dX8_unlike_47 : decode cX8_unlike 47 = .ok (.invokevirtual 161, 3) := by decide +kernel
theorem dX8_unlike_50 : decode cX8_unlike 50 = .ok (.iconst 0, 1) := by decide +kernel
theorem dX8_unlike_51 : decode cX8_unlike 51 = .ok (.istore 4, 2) := by decide +kernel
theorem dX8_unlike_53 : decode cX8_unlike 53 = .ok (.iconst 0, 1) := by decide +kernel
theorem dX8_unlike_54 : decode cX8_unlike 54 = .ok (.istore 5, 2) := by decide +kernel
theorem dX8_unlike_56 : decode cX8_unlike 56 = .ok (.iload 5, 2) := by decide +kernel
theorem dX8_unlike_58 : decode cX8_unlike 58 = .ok (.aload_n 0, 1) := by decide +kernel
theorem dX8_unlike_59 : decode cX8_unlike 59 = .ok (.getfield 13, 3) := by decide +kernel
theorem dX8_unlike_62 : decode cX8_unlike 62 = .ok (.iconst 1, 1) := by decide +kernel
theorem dX8_unlike_63 : decode cX8_unlike 63 = .ok (.iaload, 1) := by decide +kernel
theorem dX8_unlike_64 : decode cX8_unlike 64 = .ok (.if_icmp .ge 38, 3) := by decide +kernel
theorem dX8_unlike_67 : decode cX8_unlike 67 = .ok (.iload 4, 2) := by decide +kernel
theorem dX8_unlike_69 : decode cX8_unlike 69 = .ok (.ifCond .ne 20, 3) := by decide +kernel
theorem dX8_unlike_72 : decode cX8_unlike 72 = .ok (.aload_n 0, 1) := by decide +kernel
theorem dX8_unlike_73 : decode cX8_unlike 73 = .ok (.getfield 30, 3) := by decide +kernel
theorem dX8_unlike_76 : decode cX8_unlike 76 = .ok (.iload 5, 2) := by decide +kernel
theorem dX8_unlike_78 : decode cX8_unlike 78 = .ok (.iaload, 1) := by decide +kernel
theorem dX8_unlike_79 : decode cX8_unlike 79 = .ok (.aload_n 0, 1) := by decide +kernel
theorem dX8_unlike_80 : decode cX8_unlike 80 = .ok (.getfield 42, 3) := by decide +kernel
theorem dX8_unlike_83 : decode cX8_unlike 83 = .ok (.iload 5, 2) := by decide +kernel
theorem dX8_unlike_85 : decode cX8_unlike 85 = .ok (.iaload, 1) := by decide +kernel
theorem dX8_unlike_86 : decode cX8_unlike 86 = .ok (.if_icmp .eq 7, 3) := by decide +kernel
theorem dX8_unlike_89 : decode cX8_unlike 89 = .ok (.iconst 1, 1) := by decide +kernel
theorem dX8_unlike_90 : decode cX8_unlike 90 = .ok (.goto 4, 3) := by decide +kernel
theorem dX8_unlike_93 : decode cX8_unlike 93 = .ok (.iconst 0, 1) := by decide +kernel
theorem dX8_unlike_94 : decode cX8_unlike 94 = .ok (.istore 4, 2) := by decide +kernel
theorem dX8_unlike_96 : decode cX8_unlike 96 = .ok (.iinc 5 1, 3) := by decide +kernel
theorem dX8_unlike_99 : decode cX8_unlike 99 = .ok (.goto (-43), 3) := by decide +kernel
theorem dX8_unlike_102 : decode cX8_unlike 102 = .ok (.iload 4, 2) := by decide +kernel
theorem dX8_unlike_104 : decode cX8_unlike 104 = .ok (.ifCond .eq 5, 3) := by decide +kernel
theorem dX8_unlike_107 : decode cX8_unlike 107 = .ok (.iload_n 3, 1) := by decide +kernel
theorem dX8_unlike_108 : decode cX8_unlike 108 = .ok (.ireturn, 1) := by decide +kernel
theorem dX8_unlike_109 : decode cX8_unlike 109 = .ok (.iinc 3 1, 3) := by decide +kernel
theorem dX8_unlike_112 : decode cX8_unlike 112 = .ok (.goto (-85), 3) := by decide +kernel
theorem dX8_unlike_115 : decode cX8_unlike 115 = .ok (.bipush (-4), 2) := by decide +kernel
theorem dX8_unlike_117 : decode cX8_unlike 117 = .ok (.ireturn, 1) := by decide +kernel
theorem dX8_best_0 : decode cX8_best 0 = .ok (.aload_n 0, 1) := by decide +kernel
theorem dX8_best_1 : decode cX8_best 1 = .ok (.iload_n 1, 1) := by decide +kernel
theorem dX8_best_2 : decode cX8_best 2 = .ok (.invokevirtual 177, 3) := by decide +kernel
theorem dX8_best_5 : decode cX8_best 5 = .ok (.ifCond .ne 5, 3) := by decide +kernel
theorem dX8_best_8 : decode cX8_best 8 = .ok (.iconst (-1), 1) := by decide +kernel
theorem dX8_best_9 : decode cX8_best 9 = .ok (.ireturn, 1) := by decide +kernel
theorem dX8_best_10 : decode cX8_best 10 = .ok (.iconst (-1), 1) := by decide +kernel
theorem dX8_best_11 : decode cX8_best 11 = .ok (.istore_n 2, 1) := by decide +kernel
theorem dX8_best_12 : decode cX8_best 12 = .ok (.iconst 0, 1) := by decide +kernel
theorem dX8_best_13 : decode cX8_best 13 = .ok (.istore_n 3, 1) := by decide +kernel
theorem dX8_best_14 : decode cX8_best 14 = .ok (.aload_n 0, 1) := by decide +kernel
theorem dX8_best_15 : decode cX8_best 15 = .ok (.invokevirtual 168, 3) := by decide +kernel
theorem dX8_best_18 : decode cX8_best 18 = .ok (.iconst 0, 1) := by decide +kernel
theorem dX8_best_19 : decode cX8_best 19 = .ok (.istore 4, 2) := by decide +kernel
theorem dX8_best_21 : decode cX8_best 21 = .ok (.iload 4, 2) := by decide +kernel
theorem dX8_best_23 : decode cX8_best 23 = .ok (.iconst 4, 1) := by decide +kernel
theorem dX8_best_24 : decode cX8_best 24 = .ok (.if_icmp .ge 59, 3) := by decide +kernel
theorem dX8_best_27 : decode cX8_best 27 = .ok (.aload_n 0, 1) := by decide +kernel
theorem dX8_best_28 : decode cX8_best 28 = .ok (.aload_n 0, 1) := by decide +kernel
theorem dX8_best_29 : decode cX8_best 29 = .ok (.getfield 7, 3) := by decide +kernel
theorem dX8_best_32 : decode cX8_best 32 = .ok (.iconst 0, 1) := by decide +kernel
theorem dX8_best_33 : decode cX8_best 33 = .ok (.iaload, 1) := by decide +kernel
theorem dX8_best_34 : decode cX8_best 34 = .ok (.iload 4, 2) := by decide +kernel
theorem dX8_best_36 : decode cX8_best 36 = .ok (.invokevirtual 161, 3) := by decide +kernel
theorem dX8_best_39 : decode cX8_best 39 = .ok (.aload_n 0, 1) := by decide +kernel
theorem dX8_best_40 : decode cX8_best 40 = .ok (.getfield 30, 3) := by decide +kernel
theorem dX8_best_43 : decode cX8_best 43 = .ok (.iload_n 1, 1) := by decide +kernel
theorem dX8_best_44 : decode cX8_best 44 = .ok (.iaload, 1) := by decide +kernel
theorem dX8_best_45 : decode cX8_best 45 = .ok (.iload_n 2, 1) := by decide +kernel
theorem dX8_best_46 : decode cX8_best 46 = .ok (.if_icmp .le 8, 3) := by decide +kernel
theorem dX8_best_49 : decode cX8_best 49 = .ok (.iload 4, 2) := by decide +kernel
theorem dX8_best_51 : decode cX8_best 51 = .ok (.goto 4, 3) := by decide +kernel
theorem dX8_best_54 : decode cX8_best 54 = .ok (.iload_n 3, 1) := by decide +kernel
theorem dX8_best_55 : decode cX8_best 55 = .ok (.istore_n 3, 1) := by decide +kernel
theorem dX8_best_56 : decode cX8_best 56 = .ok (.aload_n 0, 1) := by decide +kernel
theorem dX8_best_57 : decode cX8_best 57 = .ok (.getfield 30, 3) := by decide +kernel
theorem dX8_best_60 : decode cX8_best 60 = .ok (.iload_n 1, 1) := by decide +kernel
theorem dX8_best_61 : decode cX8_best 61 = .ok (.iaload, 1) := by decide +kernel
theorem dX8_best_62 : decode cX8_best 62 = .ok (.iload_n 2, 1) := by decide +kernel
theorem dX8_best_63 : decode cX8_best 63 = .ok (.if_icmp .le 12, 3) := by decide +kernel
theorem dX8_best_66 : decode cX8_best 66 = .ok (.aload_n 0, 1) := by decide +kernel
theorem dX8_best_67 : decode cX8_best 67 = .ok (.getfield 30, 3) := by decide +kernel
theorem dX8_best_70 : decode cX8_best 70 = .ok (.iload_n 1, 1) := by decide +kernel
theorem dX8_best_71 : decode cX8_best 71 = .ok (.iaload, 1) := by decide +kernel
theorem dX8_best_72 : decode cX8_best 72 = .ok (.goto 4, 3) := by decide +kernel
theorem dX8_best_75 : decode cX8_best 75 = .ok (.iload_n 2, 1) := by decide +kernel
theorem dX8_best_76 : decode cX8_best 76 = .ok (.istore_n 2, 1) := by decide +kernel
theorem dX8_best_77 : decode cX8_best 77 = .ok (.iinc 4 1, 3) := by decide +kernel
theorem dX8_best_80 : decode cX8_best 80 = .ok (.goto (-59), 3) := by decide +kernel
theorem dX8_best_83 : decode cX8_best 83 = .ok (.iload_n 3, 1) := by decide +kernel
theorem dX8_best_84 : decode cX8_best 84 = .ok (.ireturn, 1) := by decide +kernel
theorem dX8_gains_0 : decode cX8_gains 0 = .ok (.aload_n 0, 1) := by decide +kernel
theorem dX8_gains_1 : decode cX8_gains 1 = .ok (.iload_n 1, 1) := by decide +kernel
theorem dX8_gains_2 : decode cX8_gains 2 = .ok (.invokevirtual 177, 3) := by decide +kernel
theorem dX8_gains_5 : decode cX8_gains 5 = .ok (.ifCond .eq 10, 3) := by decide +kernel
theorem dX8_gains_8 : decode cX8_gains 8 = .ok (.iload_n 2, 1) := by decide +kernel
theorem dX8_gains_9 : decode cX8_gains 9 = .ok (.invokestatic 189, 3) := by decide +kernel
theorem dX8_gains_12 : decode cX8_gains 12 = .ok (.ifCond .ne 5, 3) := by decide +kernel
theorem dX8_gains_15 : decode cX8_gains 15 = .ok (.iconst (-1), 1) := by decide +kernel
theorem dX8_gains_16 : decode cX8_gains 16 = .ok (.ireturn, 1) := by decide +kernel
theorem dX8_gains_17 : decode cX8_gains 17 = .ok (.aload_n 0, 1) := by decide +kernel
theorem dX8_gains_18 : decode cX8_gains 18 = .ok (.invokevirtual 168, 3) := by decide +kernel
theorem dX8_gains_21 : decode cX8_gains 21 = .ok (.aload_n 0, 1) := by decide +kernel
theorem dX8_gains_22 : decode cX8_gains 22 = .ok (.invokevirtual 171, 3) := by decide +kernel
theorem dX8_gains_25 : decode cX8_gains 25 = .ok (.aload_n 0, 1) := by decide +kernel
theorem dX8_gains_26 : decode cX8_gains 26 = .ok (.getfield 30, 3) := by decide +kernel
theorem dX8_gains_29 : decode cX8_gains 29 = .ok (.iload_n 1, 1) := by decide +kernel
theorem dX8_gains_30 : decode cX8_gains 30 = .ok (.iaload, 1) := by decide +kernel
theorem dX8_gains_31 : decode cX8_gains 31 = .ok (.istore_n 3, 1) := by decide +kernel
theorem dX8_gains_32 : decode cX8_gains 32 = .ok (.iconst 0, 1) := by decide +kernel
theorem dX8_gains_33 : decode cX8_gains 33 = .ok (.istore 4, 2) := by decide +kernel
theorem dX8_gains_35 : decode cX8_gains 35 = .ok (.bipush (-4), 2) := by decide +kernel
theorem dX8_gains_37 : decode cX8_gains 37 = .ok (.istore 5, 2) := by decide +kernel
theorem dX8_gains_39 : decode cX8_gains 39 = .ok (.iconst 0, 1) := by decide +kernel
theorem dX8_gains_40 : decode cX8_gains 40 = .ok (.istore 6, 2) := by decide +kernel
theorem dX8_gains_42 : decode cX8_gains 42 = .ok (.iload 6, 2) := by decide +kernel
theorem dX8_gains_44 : decode cX8_gains 44 = .ok (.aload_n 0, 1) := by decide +kernel
theorem dX8_gains_45 : decode cX8_gains 45 = .ok (.getfield 7, 3) := by decide +kernel
theorem dX8_gains_48 : decode cX8_gains 48 = .ok (.iconst 1, 1) := by decide +kernel
theorem dX8_gains_49 : decode cX8_gains 49 = .ok (.iaload, 1) := by decide +kernel
theorem dX8_gains_50 : decode cX8_gains 50 = .ok (.if_icmp .ge 83, 3) := by decide +kernel
theorem dX8_gains_53 : decode cX8_gains 53 = .ok (.iload 6, 2) := by decide +kernel
theorem dX8_gains_55 : decode cX8_gains 55 = .ok (.iload_n 1, 1) := by decide +kernel
theorem dX8_gains_56 : decode cX8_gains 56 = .ok (.if_icmp .eq 71, 3) := by decide +kernel
theorem dX8_gains_59 : decode cX8_gains 59 = .ok (.aload_n 0, 1) := by decide +kernel
theorem dX8_gains_60 : decode cX8_gains 60 = .ok (.invokevirtual 168, 3) := by decide +kernel
theorem dX8_gains_63 : decode cX8_gains 63 = .ok (.aload_n 0, 1) := by decide +kernel
theorem dX8_gains_64 : decode cX8_gains 64 = .ok (.iload 6, 2) := by decide +kernel
theorem dX8_gains_66 : decode cX8_gains 66 = .ok (.invokevirtual 210, 3) := by decide +kernel
theorem dX8_gains_69 : decode cX8_gains 69 = .ok (.aload_n 0, 1) := by decide +kernel
theorem dX8_gains_70 : decode cX8_gains 70 = .ok (.invokevirtual 171, 3) := by decide +kernel
theorem dX8_gains_73 : decode cX8_gains 73 = .ok (.aload_n 0, 1) := by decide +kernel
theorem dX8_gains_74 : decode cX8_gains 74 = .ok (.getfield 30, 3) := by decide +kernel
theorem dX8_gains_77 : decode cX8_gains 77 = .ok (.iload_n 1, 1) := by decide +kernel
theorem dX8_gains_78 : decode cX8_gains 78 = .ok (.iload 6, 2) := by decide +kernel
theorem dX8_gains_80 : decode cX8_gains 80 = .ok (.if_icmp .le 9, 3) := by decide +kernel
theorem dX8_gains_83 : decode cX8_gains 83 = .ok (.iload_n 1, 1) := by decide +kernel
theorem dX8_gains_84 : decode cX8_gains 84 = .ok (.iconst 1, 1) := by decide +kernel
theorem dX8_gains_85 : decode cX8_gains 85 = .ok (.isub, 1) := by decide +kernel
theorem dX8_gains_86 : decode cX8_gains 86 = .ok (.goto 4, 3) := by decide +kernel
theorem dX8_gains_89 : decode cX8_gains 89 = .ok (.iload_n 1, 1) := by decide +kernel
theorem dX8_gains_90 : decode cX8_gains 90 = .ok (.iaload, 1) := by decide +kernel
theorem dX8_gains_91 : decode cX8_gains 91 = .ok (.iload_n 3, 1) := by decide +kernel
theorem dX8_gains_92 : decode cX8_gains 92 = .ok (.isub, 1) := by decide +kernel
theorem dX8_gains_93 : decode cX8_gains 93 = .ok (.istore 7, 2) := by decide +kernel
theorem dX8_gains_95 : decode cX8_gains 95 = .ok (.iload 7, 2) := by decide +kernel
theorem dX8_gains_97 : decode cX8_gains 97 = .ok (.iload 4, 2) := by decide +kernel
theorem dX8_gains_99 : decode cX8_gains 99 = .ok (.if_icmp .le 8, 3) := by decide +kernel
theorem dX8_gains_102 : decode cX8_gains 102 = .ok (.iload 6, 2) := by decide +kernel
theorem dX8_gains_104 : decode cX8_gains 104 = .ok (.goto 5, 3) := by decide +kernel
theorem dX8_gains_107 : decode cX8_gains 107 = .ok (.iload 5, 2) := by decide +kernel
theorem dX8_gains_109 : decode cX8_gains 109 = .ok (.istore 5, 2) := by decide +kernel
theorem dX8_gains_111 : decode cX8_gains 111 = .ok (.iload 7, 2) := by decide +kernel
theorem dX8_gains_113 : decode cX8_gains 113 = .ok (.iload 4, 2) := by decide +kernel
theorem dX8_gains_115 : decode cX8_gains 115 = .ok (.if_icmp .le 8, 3) := by decide +kernel
theorem dX8_gains_118 : decode cX8_gains 118 = .ok (.iload 7, 2) := by decide +kernel
theorem dX8_gains_120 : decode cX8_gains 120 = .ok (.goto 5, 3) := by decide +kernel
theorem dX8_gains_123 : decode cX8_gains 123 = .ok (.iload 4, 2) := by decide +kernel
theorem dX8_gains_125 : decode cX8_gains 125 = .ok (.istore 4, 2) := by decide +kernel
theorem dX8_gains_127 : decode cX8_gains 127 = .ok (.iinc 6 1, 3) := by decide +kernel
theorem dX8_gains_130 : decode cX8_gains 130 = .ok (.goto (-88), 3) := by decide +kernel
theorem dX8_gains_133 : decode cX8_gains 133 = .ok (.iload 5, 2) := by decide +kernel
theorem dX8_gains_135 : decode cX8_gains 135 = .ok (.bipush (-4), 2) := by decide +kernel
theorem dX8_gains_137 : decode cX8_gains 137 = .ok (.if_icmp .ne 8, 3) := by decide +kernel
theorem dX8_gains_140 : decode cX8_gains 140 = .ok (.bipush (-4), 2) := by decide +kernel
theorem dX8_gains_142 : decode cX8_gains 142 = .ok (.goto 14, 3) := by decide +kernel
theorem dX8_gains_145 : decode cX8_gains 145 = .ok (.iload_n 2, 1) := by decide +kernel
theorem dX8_gains_146 : decode cX8_gains 146 = .ok (.ifCond .ne 8, 3) := by decide +kernel
theorem dX8_gains_149 : decode cX8_gains 149 = .ok (.iload 5, 2) := by decide +kernel
theorem dX8_gains_151 : decode cX8_gains 151 = .ok (.goto 5, 3) := by decide +kernel
theorem dX8_gains_154 : decode cX8_gains 154 = .ok (.iload 4, 2) := by decide +kernel
theorem dX8_gains_156 : decode cX8_gains 156 = .ok (.ireturn, 1) := by decide +kernel
theorem dX8_wants_0 : decode cX8_wants 0 = .ok (.aload_n 0, 1) := by decide +kernel
theorem dX8_wants_1 : decode cX8_wants 1 = .ok (.iload_n 1, 1) := by decide +kernel
theorem dX8_wants_2 : decode cX8_wants 2 = .ok (.invokevirtual 177, 3) := by decide +kernel
theorem dX8_wants_5 : decode cX8_wants 5 = .ok (.ifCond .eq 15, 3) := by decide +kernel
theorem dX8_wants_8 : decode cX8_wants 8 = .ok (.iload_n 2, 1) := by decide +kernel
theorem dX8_wants_9 : decode cX8_wants 9 = .ok (.i2l, 1) := by decide +kernel
theorem dX8_wants_10 : decode cX8_wants 10 = .ok (.lconst 0, 1) := by decide +kernel
theorem dX8_wants_11 : decode cX8_wants 11 = .ok (.ldc2_w 205, 3) := by decide +kernel
theorem dX8_wants_14 : decode cX8_wants 14 = .ok (.invokestatic 75, 3) := by decide +kernel
theorem dX8_wants_17 : decode cX8_wants 17 = .ok (.ifCond .ne 5, 3) := by decide +kernel
theorem dX8_wants_20 : decode cX8_wants 20 = .ok (.iconst (-1), 1) := by decide +kernel
theorem dX8_wants_21 : decode cX8_wants 21 = .ok (.ireturn, 1) := by decide +kernel
theorem dX8_wants_22 : decode cX8_wants 22 = .ok (.aload_n 0, 1) := by decide +kernel
theorem dX8_wants_23 : decode cX8_wants 23 = .ok (.invokevirtual 168, 3) := by decide +kernel
theorem dX8_wants_26 : decode cX8_wants 26 = .ok (.iconst 0, 1) := by decide +kernel
theorem dX8_wants_27 : decode cX8_wants 27 = .ok (.istore_n 3, 1) := by decide +kernel
theorem dX8_wants_28 : decode cX8_wants 28 = .ok (.iload_n 3, 1) := by decide +kernel
theorem dX8_wants_29 : decode cX8_wants 29 = .ok (.sipush 999, 3) := by decide +kernel
theorem dX8_wants_32 : decode cX8_wants 32 = .ok (.if_icmp .gt 32, 3) := by decide +kernel
theorem dX8_wants_35 : decode cX8_wants 35 = .ok (.aload_n 0, 1) := by decide +kernel
theorem dX8_wants_36 : decode cX8_wants 36 = .ok (.iload_n 3, 1) := by decide +kernel
theorem dX8_wants_37 : decode cX8_wants 37 = .ok (.aload_n 0, 1) := by decide +kernel
theorem dX8_wants_38 : decode cX8_wants 38 = .ok (.getfield 13, 3) := by decide +kernel
theorem dX8_wants_41 : decode cX8_wants 41 = .ok (.iconst 2, 1) := by decide +kernel
theorem dX8_wants_42 : decode cX8_wants 42 = .ok (.iaload, 1) := by decide +kernel
theorem dX8_wants_43 : decode cX8_wants 43 = .ok (.invokevirtual 161, 3) := by decide +kernel
theorem dX8_wants_46 : decode cX8_wants 46 = .ok (.aload_n 0, 1) := by decide +kernel
theorem dX8_wants_47 : decode cX8_wants 47 = .ok (.getfield 30, 3) := by decide +kernel
theorem dX8_wants_50 : decode cX8_wants 50 = .ok (.iload_n 1, 1) := by decide +kernel
theorem dX8_wants_51 : decode cX8_wants 51 = .ok (.iaload, 1) := by decide +kernel
theorem dX8_wants_52 : decode cX8_wants 52 = .ok (.iload_n 2, 1) := by decide +kernel
theorem dX8_wants_53 : decode cX8_wants 53 = .ok (.if_icmp .lt 5, 3) := by decide +kernel
theorem dX8_wants_56 : decode cX8_wants 56 = .ok (.iload_n 3, 1) := by decide +kernel
theorem dX8_wants_57 : decode cX8_wants 57 = .ok (.ireturn, 1) := by decide +kernel
theorem dX8_wants_58 : decode cX8_wants 58 = .ok (.iinc 3 1, 3) := by decide +kernel
theorem dX8_wants_61 : decode cX8_wants 61 = .ok (.goto (-33), 3) := by decide +kernel
theorem dX8_wants_64 : decode cX8_wants 64 = .ok (.bipush (-4), 2) := by decide +kernel
theorem dX8_wants_66 : decode cX8_wants 66 = .ok (.ireturn, 1) := by decide +kernel
theorem dX8_findOdds_0 : decode cX8_findOdds 0 = .ok (.aload_n 0, 1) := by decide +kernel
theorem dX8_findOdds_1 : decode cX8_findOdds 1 = .ok (.getfield 7, 3) := by decide +kernel
theorem dX8_findOdds_4 : decode cX8_findOdds 4 = .ok (.iconst 0, 1) := by decide +kernel
theorem dX8_findOdds_5 : decode cX8_findOdds 5 = .ok (.iaload, 1) := by decide +kernel
theorem dX8_findOdds_6 : decode cX8_findOdds 6 = .ok (.istore 4, 2) := by decide +kernel
theorem dX8_findOdds_8 : decode cX8_findOdds 8 = .ok (.aload_n 0, 1) := by decide +kernel
theorem dX8_findOdds_9 : decode cX8_findOdds 9 = .ok (.lconst 0, 1) := by decide +kernel
theorem dX8_findOdds_10 : decode cX8_findOdds 10 = .ok (.putfield 239, 3) := by decide +kernel
theorem dX8_findOdds_13 : decode cX8_findOdds 13 = .ok (.aload_n 0, 1) := by decide +kernel
theorem dX8_findOdds_14 : decode cX8_findOdds 14 = .ok (.lconst 0, 1) := by decide +kernel
theorem dX8_findOdds_15 : decode cX8_findOdds 15 = .ok (.putfield 242, 3) := by decide +kernel
theorem dX8_findOdds_18 : decode cX8_findOdds 18 = .ok (.aload_n 0, 1) := by decide +kernel
theorem dX8_findOdds_19 : decode cX8_findOdds 19 = .ok (.lconst 1, 1) := by decide +kernel
theorem dX8_findOdds_20 : decode cX8_findOdds 20 = .ok (.putfield 245, 3) := by decide +kernel
theorem dX8_findOdds_23 : decode cX8_findOdds 23 = .ok (.aload_n 0, 1) := by decide +kernel
theorem dX8_findOdds_24 : decode cX8_findOdds 24 = .ok (.invokevirtual 168, 3) := by decide +kernel
theorem dX8_findOdds_27 : decode cX8_findOdds 27 = .ok (.iconst 0, 1) := by decide +kernel
theorem dX8_findOdds_28 : decode cX8_findOdds 28 = .ok (.istore 5, 2) := by decide +kernel
theorem dX8_findOdds_30 : decode cX8_findOdds 30 = .ok (.iload 5, 2) := by decide +kernel
theorem dX8_findOdds_32 : decode cX8_findOdds 32 = .ok (.iload 4, 2) := by decide +kernel
theorem dX8_findOdds_34 : decode cX8_findOdds 34 = .ok (.if_icmp .ge 21, 3) := by decide +kernel
theorem dX8_findOdds_37 : decode cX8_findOdds 37 = .ok (.aload_n 0, 1) := by decide +kernel
theorem dX8_findOdds_38 : decode cX8_findOdds 38 = .ok (.dup, 1) := by decide +kernel
theorem dX8_findOdds_39 : decode cX8_findOdds 39 = .ok (.getfield 245, 3) := by decide +kernel
theorem dX8_findOdds_42 : decode cX8_findOdds 42 = .ok (.ldc2_w 248, 3) := by decide +kernel
theorem dX8_findOdds_45 : decode cX8_findOdds 45 = .ok (.lmul, 1) := by decide +kernel
theorem dX8_findOdds_46 : decode cX8_findOdds 46 = .ok (.putfield 245, 3) := by decide +kernel
theorem dX8_findOdds_49 : decode cX8_findOdds 49 = .ok (.iinc 5 1, 3) := by decide +kernel
theorem dX8_findOdds_52 : decode cX8_findOdds 52 = .ok (.goto (-22), 3) := by decide +kernel
theorem dX8_findOdds_55 : decode cX8_findOdds 55 = .ok (.lconst 1, 1) := by decide +kernel
theorem dX8_findOdds_56 : decode cX8_findOdds 56 = .ok (.lstore 5, 2) := by decide +kernel
theorem dX8_findOdds_58 : decode cX8_findOdds 58 = .ok (.iconst 0, 1) := by decide +kernel
theorem dX8_findOdds_59 : decode cX8_findOdds 59 = .ok (.istore 7, 2) := by decide +kernel
theorem dX8_findOdds_61 : decode cX8_findOdds 61 = .ok (.iload 7, 2) := by decide +kernel
theorem dX8_findOdds_63 : decode cX8_findOdds 63 = .ok (.iload 4, 2) := by decide +kernel
theorem dX8_findOdds_65 : decode cX8_findOdds 65 = .ok (.if_icmp .gt 127, 3) := by decide +kernel
theorem dX8_findOdds_68 : decode cX8_findOdds 68 = .ok (.lload 5, 2) := by decide +kernel
theorem dX8_findOdds_70 : decode cX8_findOdds 70 = .ok (.lstore 8, 2) := by decide +kernel
theorem dX8_findOdds_72 : decode cX8_findOdds 72 = .ok (.iconst 0, 1) := by decide +kernel
theorem dX8_findOdds_73 : decode cX8_findOdds 73 = .ok (.istore 10, 2) := by decide +kernel
theorem dX8_findOdds_75 : decode cX8_findOdds 75 = .ok (.iload 10, 2) := by decide +kernel
theorem dX8_findOdds_77 : decode cX8_findOdds 77 = .ok (.iload 4, 2) := by decide +kernel
theorem dX8_findOdds_79 : decode cX8_findOdds 79 = .ok (.if_icmp .ge 31, 3) := by decide +kernel
theorem dX8_findOdds_82 : decode cX8_findOdds 82 = .ok (.lload 8, 2) := by decide +kernel
theorem dX8_findOdds_84 : decode cX8_findOdds 84 = .ok (.iload 10, 2) := by decide +kernel
theorem dX8_findOdds_86 : decode cX8_findOdds 86 = .ok (.iload 7, 2) := by decide +kernel
theorem dX8_findOdds_88 : decode cX8_findOdds 88 = .ok (.if_icmp .ge 8, 3) := by decide +kernel
theorem dX8_findOdds_91 : decode cX8_findOdds 91 = .ok (.iload_n 1, 1) := by decide +kernel
theorem dX8_findOdds_92 : decode cX8_findOdds 92 = .ok (.i2l, 1) := by decide +kernel
theorem dX8_findOdds_93 : decode cX8_findOdds 93 = .ok (.goto 8, 3) := by decide +kernel
theorem dX8_findOdds_96 : decode cX8_findOdds 96 = .ok (.bipush 10, 2) := by decide +kernel
theorem dX8_findOdds_98 : decode cX8_findOdds 98 = .ok (.iload_n 1, 1) := by decide +kernel
theorem dX8_findOdds_99 : decode cX8_findOdds 99 = .ok (.isub, 1) := by decide +kernel
theorem dX8_findOdds_100 : decode cX8_findOdds 100 = .ok (.i2l, 1) := by decide +kernel
theorem dX8_findOdds_101 : decode cX8_findOdds 101 = .ok (.lmul, 1) := by decide +kernel
theorem dX8_findOdds_102 : decode cX8_findOdds 102 = .ok (.lstore 8, 2) := by decide +kernel
theorem dX8_findOdds_104 : decode cX8_findOdds 104 = .ok (.iinc 10 1, 3) := by decide +kernel
theorem dX8_findOdds_107 : decode cX8_findOdds 107 = .ok (.goto (-32), 3) := by decide +kernel
theorem dX8_findOdds_110 : decode cX8_findOdds 110 = .ok (.aload_n 0, 1) := by decide +kernel
theorem dX8_findOdds_111 : decode cX8_findOdds 111 = .ok (.iload 4, 2) := by decide +kernel
theorem dX8_findOdds_113 : decode cX8_findOdds 113 = .ok (.iload 7, 2) := by decide +kernel
theorem dX8_findOdds_115 : decode cX8_findOdds 115 = .ok (.isub, 1) := by decide +kernel
theorem dX8_findOdds_116 : decode cX8_findOdds 116 = .ok (.aload_n 0, 1) := by decide +kernel
theorem dX8_findOdds_117 : decode cX8_findOdds 117 = .ok (.getfield 13, 3) := by decide +kernel
theorem dX8_findOdds_120 : decode cX8_findOdds 120 = .ok (.iconst 2, 1) := by decide +kernel
theorem dX8_findOdds_121 : decode cX8_findOdds 121 = .ok (.iaload, 1) := by decide +kernel
theorem dX8_findOdds_122 : decode cX8_findOdds 122 = .ok (.invokevirtual 161, 3) := by decide +kernel
theorem dX8_findOdds_125 : decode cX8_findOdds 125 = .ok (.aload_n 0, 1) := by decide +kernel
theorem dX8_findOdds_126 : decode cX8_findOdds 126 = .ok (.dup, 1) := by decide +kernel
theorem dX8_findOdds_127 : decode cX8_findOdds 127 = .ok (.getfield 239, 3) := by decide +kernel
theorem dX8_findOdds_130 : decode cX8_findOdds 130 = .ok (.lload 8, 2) := by decide +kernel
theorem dX8_findOdds_132 : decode cX8_findOdds 132 = .ok (.aload_n 0, 1) := by decide +kernel
theorem dX8_findOdds_133 : decode cX8_findOdds 133 = .ok (.getfield 30, 3) := by decide +kernel
theorem dX8_findOdds_136 : decode cX8_findOdds 136 = .ok (.iload_n 2, 1) := by decide +kernel
theorem dX8_findOdds_137 : decode cX8_findOdds 137 = .ok (.iaload, 1) := by decide +kernel
theorem dX8_findOdds_138 : decode cX8_findOdds 138 = .ok (.i2l, 1) := by decide +kernel
theorem dX8_findOdds_139 : decode cX8_findOdds 139 = .ok (.lmul, 1) := by decide +kernel
theorem dX8_findOdds_140 : decode cX8_findOdds 140 = .ok (.ladd, 1) := by decide +kernel
theorem dX8_findOdds_141 : decode cX8_findOdds 141 = .ok (.putfield 239, 3) := by decide +kernel
theorem dX8_findOdds_144 : decode cX8_findOdds 144 = .ok (.aload_n 0, 1) := by decide +kernel
theorem dX8_findOdds_145 : decode cX8_findOdds 145 = .ok (.dup, 1) := by decide +kernel
theorem dX8_findOdds_146 : decode cX8_findOdds 146 = .ok (.getfield 242, 3) := by decide +kernel
theorem dX8_findOdds_149 : decode cX8_findOdds 149 = .ok (.aload_n 0, 1) := by decide +kernel
theorem dX8_findOdds_150 : decode cX8_findOdds 150 = .ok (.getfield 30, 3) := by decide +kernel
theorem dX8_findOdds_153 : decode cX8_findOdds 153 = .ok (.iload_n 2, 1) := by decide +kernel
theorem dX8_findOdds_154 : decode cX8_findOdds 154 = .ok (.iaload, 1) := by decide +kernel
theorem dX8_findOdds_155 : decode cX8_findOdds 155 = .ok (.iload_n 3, 1) := by decide +kernel
theorem dX8_findOdds_156 : decode cX8_findOdds 156 = .ok (.if_icmp .lt 8, 3) := by decide +kernel
theorem dX8_findOdds_159 : decode cX8_findOdds 159 = .ok (.lload 8, 2) := by decide +kernel
theorem dX8_findOdds_161 : decode cX8_findOdds 161 = .ok (.goto 4, 3) := by decide +kernel
theorem dX8_findOdds_164 : decode cX8_findOdds 164 = .ok (.lconst 0, 1) := by decide +kernel
theorem dX8_findOdds_165 : decode cX8_findOdds 165 = .ok (.ladd, 1) := by decide +kernel
theorem dX8_findOdds_166 : decode cX8_findOdds 166 = .ok (.putfield 242, 3) := by decide +kernel
theorem dX8_findOdds_169 : decode cX8_findOdds 169 = .ok (.lload 5, 2) := by decide +kernel
theorem dX8_findOdds_171 : decode cX8_findOdds 171 = .ok (.iload 4, 2) := by decide +kernel
theorem dX8_findOdds_173 : decode cX8_findOdds 173 = .ok (.iload 7, 2) := by decide +kernel
theorem dX8_findOdds_175 : decode cX8_findOdds 175 = .ok (.isub, 1) := by decide +kernel
theorem dX8_findOdds_176 : decode cX8_findOdds 176 = .ok (.i2l, 1) := by decide +kernel
theorem dX8_findOdds_177 : decode cX8_findOdds 177 = .ok (.lmul, 1) := by decide +kernel
theorem dX8_findOdds_178 : decode cX8_findOdds 178 = .ok (.iload 7, 2) := by decide +kernel
theorem dX8_findOdds_180 : decode cX8_findOdds 180 = .ok (.iconst 1, 1) := by decide +kernel
theorem dX8_findOdds_181 : decode cX8_findOdds 181 = .ok (.iadd, 1) := by decide +kernel
theorem dX8_findOdds_182 : decode cX8_findOdds 182 = .ok (.i2l, 1) := by decide +kernel
theorem dX8_findOdds_183 : decode cX8_findOdds 183 = .ok (.ldiv, 1) := by decide +kernel
theorem dX8_findOdds_184 : decode cX8_findOdds 184 = .ok (.lstore 5, 2) := by decide +kernel
theorem dX8_findOdds_186 : decode cX8_findOdds 186 = .ok (.iinc 7 1, 3) := by decide +kernel
theorem dX8_findOdds_189 : decode cX8_findOdds 189 = .ok (.goto (-128), 3) := by decide +kernel
theorem dX8_findOdds_192 : decode cX8_findOdds 192 = .ok (.return_, 1) := by decide +kernel
theorem dX8_mean_0 : decode cX8_mean 0 = .ok (.iload_n 1, 1) := by decide +kernel
theorem dX8_mean_1 : decode cX8_mean 1 = .ok (.i2l, 1) := by decide +kernel
theorem dX8_mean_2 : decode cX8_mean 2 = .ok (.lconst 0, 1) := by decide +kernel
theorem dX8_mean_3 : decode cX8_mean 3 = .ok (.ldc2_w 248, 3) := by decide +kernel
theorem dX8_mean_6 : decode cX8_mean 6 = .ok (.invokestatic 75, 3) := by decide +kernel
theorem dX8_mean_9 : decode cX8_mean 9 = .ok (.ifCond .eq 18, 3) := by decide +kernel
theorem dX8_mean_12 : decode cX8_mean 12 = .ok (.aload_n 0, 1) := by decide +kernel
theorem dX8_mean_13 : decode cX8_mean 13 = .ok (.iload_n 2, 1) := by decide +kernel
theorem dX8_mean_14 : decode cX8_mean 14 = .ok (.invokevirtual 177, 3) := by decide +kernel
theorem dX8_mean_17 : decode cX8_mean 17 = .ok (.ifCond .eq 10, 3) := by decide +kernel
theorem dX8_mean_20 : decode cX8_mean 20 = .ok (.iload_n 3, 1) := by decide +kernel
theorem dX8_mean_21 : decode cX8_mean 21 = .ok (.invokestatic 189, 3) := by decide +kernel
theorem dX8_mean_24 : decode cX8_mean 24 = .ok (.ifCond .ne 7, 3) := by decide +kernel
theorem dX8_mean_27 : decode cX8_mean 27 = .ok (.ldc2_w 196, 3) := by decide +kernel
theorem dX8_mean_30 : decode cX8_mean 30 = .ok (.lreturn, 1) := by decide +kernel
theorem dX8_mean_31 : decode cX8_mean 31 = .ok (.aload_n 0, 1) := by decide +kernel
theorem dX8_mean_32 : decode cX8_mean 32 = .ok (.getfield 7, 3) := by decide +kernel
theorem dX8_mean_35 : decode cX8_mean 35 = .ok (.iconst 0, 1) := by decide +kernel
theorem dX8_mean_36 : decode cX8_mean 36 = .ok (.iaload, 1) := by decide +kernel
theorem dX8_mean_37 : decode cX8_mean 37 = .ok (.bipush 12, 2) := by decide +kernel
theorem dX8_mean_39 : decode cX8_mean 39 = .ok (.if_icmp .le 7, 3) := by decide +kernel
theorem dX8_mean_42 : decode cX8_mean 42 = .ok (.ldc2_w 250, 3) := by decide +kernel
theorem dX8_mean_45 : decode cX8_mean 45 = .ok (.lreturn, 1) := by decide +kernel
theorem dX8_mean_46 : decode cX8_mean 46 = .ok (.aload_n 0, 1) := by decide +kernel
theorem dX8_mean_47 : decode cX8_mean 47 = .ok (.iload_n 1, 1) := by decide +kernel
theorem dX8_mean_48 : decode cX8_mean 48 = .ok (.iload_n 2, 1) := by decide +kernel
theorem dX8_mean_49 : decode cX8_mean 49 = .ok (.iconst 0, 1) := by decide +kernel
theorem dX8_mean_50 : decode cX8_mean 50 = .ok (.invokevirtual 252, 3) := by decide +kernel
theorem dX8_mean_53 : decode cX8_mean 53 = .ok (.aload_n 0, 1) := by decide +kernel
theorem dX8_mean_54 : decode cX8_mean 54 = .ok (.getfield 239, 3) := by decide +kernel
theorem dX8_mean_57 : decode cX8_mean 57 = .ok (.aload_n 0, 1) := by decide +kernel
theorem dX8_mean_58 : decode cX8_mean 58 = .ok (.getfield 245, 3) := by decide +kernel
theorem dX8_mean_61 : decode cX8_mean 61 = .ok (.iload_n 3, 1) := by decide +kernel
theorem dX8_mean_62 : decode cX8_mean 62 = .ok (.invokestatic 192, 3) := by decide +kernel
theorem dX8_mean_65 : decode cX8_mean 65 = .ok (.lreturn, 1) := by decide +kernel
theorem dX8_luck_0 : decode cX8_luck 0 = .ok (.iload_n 1, 1) := by decide +kernel
theorem dX8_luck_1 : decode cX8_luck 1 = .ok (.i2l, 1) := by decide +kernel
theorem dX8_luck_2 : decode cX8_luck 2 = .ok (.lconst 0, 1) := by decide +kernel
theorem dX8_luck_3 : decode cX8_luck 3 = .ok (.ldc2_w 248, 3) := by decide +kernel
theorem dX8_luck_6 : decode cX8_luck 6 = .ok (.invokestatic 75, 3) := by decide +kernel
theorem dX8_luck_9 : decode cX8_luck 9 = .ok (.ifCond .eq 31, 3) := by decide +kernel
theorem dX8_luck_12 : decode cX8_luck 12 = .ok (.aload_n 0, 1) := by decide +kernel
theorem dX8_luck_13 : decode cX8_luck 13 = .ok (.iload_n 2, 1) := by decide +kernel
theorem dX8_luck_14 : decode cX8_luck 14 = .ok (.invokevirtual 177, 3) := by decide +kernel
theorem dX8_luck_17 : decode cX8_luck 17 = .ok (.ifCond .eq 23, 3) := by decide +kernel
theorem dX8_luck_20 : decode cX8_luck 20 = .ok (.iload_n 3, 1) := by decide +kernel
theorem dX8_luck_21 : decode cX8_luck 21 = .ok (.i2l, 1) := by decide +kernel
theorem dX8_luck_22 : decode cX8_luck 22 = .ok (.lconst 0, 1) := by decide +kernel
theorem dX8_luck_23 : decode cX8_luck 23 = .ok (.ldc2_w 205, 3) := by decide +kernel
theorem dX8_luck_26 : decode cX8_luck 26 = .ok (.invokestatic 75, 3) := by decide +kernel
theorem dX8_luck_29 : decode cX8_luck 29 = .ok (.ifCond .eq 11, 3) := by decide +kernel
theorem dX8_luck_32 : decode cX8_luck 32 = .ok (.iload 4, 2) := by decide +kernel
theorem dX8_luck_34 : decode cX8_luck 34 = .ok (.invokestatic 189, 3) := by decide +kernel
theorem dX8_luck_37 : decode cX8_luck 37 = .ok (.ifCond .ne 7, 3) := by decide +kernel
theorem dX8_luck_40 : decode cX8_luck 40 = .ok (.ldc2_w 196, 3) := by decide +kernel
theorem dX8_luck_43 : decode cX8_luck 43 = .ok (.lreturn, 1) := by decide +kernel
theorem dX8_luck_44 : decode cX8_luck 44 = .ok (.aload_n 0, 1) := by decide +kernel
theorem dX8_luck_45 : decode cX8_luck 45 = .ok (.getfield 7, 3) := by decide +kernel
theorem dX8_luck_48 : decode cX8_luck 48 = .ok (.iconst 0, 1) := by decide +kernel
theorem dX8_luck_49 : decode cX8_luck 49 = .ok (.iaload, 1) := by decide +kernel
theorem dX8_luck_50 : decode cX8_luck 50 = .ok (.bipush 12, 2) := by decide +kernel
theorem dX8_luck_52 : decode cX8_luck 52 = .ok (.if_icmp .le 7, 3) := by decide +kernel
theorem dX8_luck_55 : decode cX8_luck 55 = .ok (.ldc2_w 250, 3) := by decide +kernel
theorem dX8_luck_58 : decode cX8_luck 58 = .ok (.lreturn, 1) := by decide +kernel
theorem dX8_luck_59 : decode cX8_luck 59 = .ok (.aload_n 0, 1) := by decide +kernel
theorem dX8_luck_60 : decode cX8_luck 60 = .ok (.iload_n 1, 1) := by decide +kernel
theorem dX8_luck_61 : decode cX8_luck 61 = .ok (.iload_n 2, 1) := by decide +kernel
theorem dX8_luck_62 : decode cX8_luck 62 = .ok (.iload_n 3, 1) := by decide +kernel
theorem dX8_luck_63 : decode cX8_luck 63 = .ok (.invokevirtual 252, 3) := by decide +kernel
theorem dX8_luck_66 : decode cX8_luck 66 = .ok (.aload_n 0, 1) := by decide +kernel
theorem dX8_luck_67 : decode cX8_luck 67 = .ok (.getfield 242, 3) := by decide +kernel
theorem dX8_luck_70 : decode cX8_luck 70 = .ok (.aload_n 0, 1) := by decide +kernel
theorem dX8_luck_71 : decode cX8_luck 71 = .ok (.getfield 245, 3) := by decide +kernel
theorem dX8_luck_74 : decode cX8_luck 74 = .ok (.iload 4, 2) := by decide +kernel
theorem dX8_luck_76 : decode cX8_luck 76 = .ok (.invokestatic 192, 3) := by decide +kernel
theorem dX8_luck_79 : decode cX8_luck 79 = .ok (.lreturn, 1) := by decide +kernel
theorem dX8_see_0 : decode cX8_see 0 = .ok (.aload_n 0, 1) := by decide +kernel
theorem dX8_see_1 : decode cX8_see 1 = .ok (.iload_n 1, 1) := by decide +kernel
theorem dX8_see_2 : decode cX8_see 2 = .ok (.invokevirtual 177, 3) := by decide +kernel
theorem dX8_see_5 : decode cX8_see 5 = .ok (.ifCond .eq 15, 3) := by decide +kernel
theorem dX8_see_8 : decode cX8_see 8 = .ok (.iload_n 2, 1) := by decide +kernel
theorem dX8_see_9 : decode cX8_see 9 = .ok (.i2l, 1) := by decide +kernel
theorem dX8_see_10 : decode cX8_see 10 = .ok (.lconst 0, 1) := by decide +kernel
theorem dX8_see_11 : decode cX8_see 11 = .ok (.ldc2_w 205, 3) := by decide +kernel
theorem dX8_see_14 : decode cX8_see 14 = .ok (.invokestatic 75, 3) := by decide +kernel
theorem dX8_see_17 : decode cX8_see 17 = .ok (.ifCond .ne 5, 3) := by decide +kernel
theorem dX8_see_20 : decode cX8_see 20 = .ok (.iconst (-1), 1) := by decide +kernel
theorem dX8_see_21 : decode cX8_see 21 = .ok (.ireturn, 1) := by decide +kernel
theorem dX8_see_22 : decode cX8_see 22 = .ok (.aload_n 0, 1) := by decide +kernel
theorem dX8_see_23 : decode cX8_see 23 = .ok (.getfield 7, 3) := by decide +kernel
theorem dX8_see_26 : decode cX8_see 26 = .ok (.bipush 13, 2) := by decide +kernel
theorem dX8_see_28 : decode cX8_see 28 = .ok (.iaload, 1) := by decide +kernel
theorem dX8_see_29 : decode cX8_see 29 = .ok (.bipush 6, 2) := by decide +kernel
theorem dX8_see_31 : decode cX8_see 31 = .ok (.if_icmp .ne 6, 3) := by decide +kernel
theorem dX8_see_34 : decode cX8_see 34 = .ok (.bipush (-3), 2) := by decide +kernel
theorem dX8_see_36 : decode cX8_see 36 = .ok (.ireturn, 1) := by decide +kernel
theorem dX8_see_37 : decode cX8_see 37 = .ok (.bipush 14, 2) := by decide +kernel
theorem dX8_see_39 : decode cX8_see 39 = .ok (.iconst 2, 1) := by decide +kernel
theorem dX8_see_40 : decode cX8_see 40 = .ok (.aload_n 0, 1) := by decide +kernel
theorem dX8_see_41 : decode cX8_see 41 = .ok (.getfield 7, 3) := by decide +kernel
theorem dX8_see_44 : decode cX8_see 44 = .ok (.bipush 13, 2) := by decide +kernel
theorem dX8_see_46 : decode cX8_see 46 = .ok (.iaload, 1) := by decide +kernel
theorem dX8_see_47 : decode cX8_see 47 = .ok (.imul, 1) := by decide +kernel
theorem dX8_see_48 : decode cX8_see 48 = .ok (.iadd, 1) := by decide +kernel
theorem dX8_see_49 : decode cX8_see 49 = .ok (.istore_n 3, 1) := by decide +kernel
theorem dX8_see_50 : decode cX8_see 50 = .ok (.aload_n 0, 1) := by decide +kernel
theorem dX8_see_51 : decode cX8_see 51 = .ok (.getfield 7, 3) := by decide +kernel
theorem dX8_see_54 : decode cX8_see 54 = .ok (.iload_n 3, 1) := by decide +kernel
theorem dX8_see_55 : decode cX8_see 55 = .ok (.iload_n 1, 1) := by decide +kernel
theorem dX8_see_56 : decode cX8_see 56 = .ok (.iastore, 1) := by decide +kernel
theorem dX8_see_57 : decode cX8_see 57 = .ok (.aload_n 0, 1) := by decide +kernel
theorem dX8_see_58 : decode cX8_see 58 = .ok (.getfield 7, 3) := by decide +kernel
theorem dX8_see_61 : decode cX8_see 61 = .ok (.iload_n 3, 1) := by decide +kernel
theorem dX8_see_62 : decode cX8_see 62 = .ok (.iconst 1, 1) := by decide +kernel
theorem dX8_see_63 : decode cX8_see 63 = .ok (.iadd, 1) := by decide +kernel
theorem dX8_see_64 : decode cX8_see 64 = .ok (.iload_n 2, 1) := by decide +kernel
theorem dX8_see_65 : decode cX8_see 65 = .ok (.iastore, 1) := by decide +kernel
theorem dX8_see_66 : decode cX8_see 66 = .ok (.aload_n 0, 1) := by decide +kernel
theorem dX8_see_67 : decode cX8_see 67 = .ok (.getfield 7, 3) := by decide +kernel
theorem dX8_see_70 : decode cX8_see 70 = .ok (.bipush 13, 2) := by decide +kernel
theorem dX8_see_72 : decode cX8_see 72 = .ok (.dup2, 1) := by decide +kernel
theorem dX8_see_73 : decode cX8_see 73 = .ok (.iaload, 1) := by decide +kernel
theorem dX8_see_74 : decode cX8_see 74 = .ok (.iconst 1, 1) := by decide +kernel
theorem dX8_see_75 : decode cX8_see 75 = .ok (.iadd, 1) := by decide +kernel
theorem dX8_see_76 : decode cX8_see 76 = .ok (.iastore, 1) := by decide +kernel
theorem dX8_see_77 : decode cX8_see 77 = .ok (.aload_n 0, 1) := by decide +kernel
theorem dX8_see_78 : decode cX8_see 78 = .ok (.getfield 7, 3) := by decide +kernel
theorem dX8_see_81 : decode cX8_see 81 = .ok (.bipush 13, 2) := by decide +kernel
theorem dX8_see_83 : decode cX8_see 83 = .ok (.iaload, 1) := by decide +kernel
theorem dX8_see_84 : decode cX8_see 84 = .ok (.ireturn, 1) := by decide +kernel
theorem dX8_forget_0 : decode cX8_forget 0 = .ok (.iload_n 1, 1) := by decide +kernel
theorem dX8_forget_1 : decode cX8_forget 1 = .ok (.i2l, 1) := by decide +kernel
theorem dX8_forget_2 : decode cX8_forget 2 = .ok (.lconst 0, 1) := by decide +kernel
theorem dX8_forget_3 : decode cX8_forget 3 = .ok (.aload_n 0, 1) := by decide +kernel
theorem dX8_forget_4 : decode cX8_forget 4 = .ok (.getfield 7, 3) := by decide +kernel
theorem dX8_forget_7 : decode cX8_forget 7 = .ok (.bipush 13, 2) := by decide +kernel
theorem dX8_forget_9 : decode cX8_forget 9 = .ok (.iaload, 1) := by decide +kernel
theorem dX8_forget_10 : decode cX8_forget 10 = .ok (.i2l, 1) := by decide +kernel
theorem dX8_forget_11 : decode cX8_forget 11 = .ok (.invokestatic 75, 3) := by decide +kernel
theorem dX8_forget_14 : decode cX8_forget 14 = .ok (.ifCond .eq 13, 3) := by decide +kernel
theorem dX8_forget_17 : decode cX8_forget 17 = .ok (.aload_n 0, 1) := by decide +kernel
theorem dX8_forget_18 : decode cX8_forget 18 = .ok (.bipush 13, 2) := by decide +kernel
theorem dX8_forget_20 : decode cX8_forget 20 = .ok (.iload_n 1, 1) := by decide +kernel
theorem dX8_forget_21 : decode cX8_forget 21 = .ok (.invokevirtual 202, 3) := by decide +kernel
theorem dX8_forget_24 : decode cX8_forget 24 = .ok (.goto 4, 3) := by decide +kernel
theorem dX8_forget_27 : decode cX8_forget 27 = .ok (.iconst (-1), 1) := by decide +kernel
theorem dX8_forget_28 : decode cX8_forget 28 = .ok (.ireturn, 1) := by decide +kernel
theorem dX8_isSo_0 : decode cX8_isSo 0 = .ok (.iconst 1, 1) := by decide +kernel
theorem dX8_isSo_1 : decode cX8_isSo 1 = .ok (.istore_n 1, 1) := by decide +kernel
theorem dX8_isSo_2 : decode cX8_isSo 2 = .ok (.iconst 0, 1) := by decide +kernel
theorem dX8_isSo_3 : decode cX8_isSo 3 = .ok (.istore_n 2, 1) := by decide +kernel
theorem dX8_isSo_4 : decode cX8_isSo 4 = .ok (.iload_n 2, 1) := by decide +kernel
theorem dX8_isSo_5 : decode cX8_isSo 5 = .ok (.aload_n 0, 1) := by decide +kernel
theorem dX8_isSo_6 : decode cX8_isSo 6 = .ok (.getfield 7, 3) := by decide +kernel
theorem dX8_isSo_9 : decode cX8_isSo 9 = .ok (.bipush 13, 2) := by decide +kernel
theorem dX8_isSo_11 : decode cX8_isSo 11 = .ok (.iaload, 1) := by decide +kernel
theorem dX8_isSo_12 : decode cX8_isSo 12 = .ok (.if_icmp .ge 63, 3) := by decide +kernel
theorem dX8_isSo_15 : decode cX8_isSo 15 = .ok (.aload_n 0, 1) := by decide +kernel
theorem dX8_isSo_16 : decode cX8_isSo 16 = .ok (.getfield 7, 3) := by decide +kernel
theorem dX8_isSo_19 : decode cX8_isSo 19 = .ok (.bipush 14, 2) := by decide +kernel
theorem dX8_isSo_21 : decode cX8_isSo 21 = .ok (.iconst 2, 1) := by decide +kernel
theorem dX8_isSo_22 : decode cX8_isSo 22 = .ok (.iload_n 2, 1) := by decide +kernel
theorem dX8_isSo_23 : decode cX8_isSo 23 = .ok (.imul, 1) := by decide +kernel
theorem dX8_isSo_24 : decode cX8_isSo 24 = .ok (.iadd, 1) := by decide +kernel
theorem dX8_isSo_25 : decode cX8_isSo 25 = .ok (.iaload, 1) := by decide +kernel
theorem dX8_isSo_26 : decode cX8_isSo 26 = .ok (.istore_n 3, 1) := by decide +kernel
theorem dX8_isSo_27 : decode cX8_isSo 27 = .ok (.iload_n 1, 1) := by decide +kernel
theorem dX8_isSo_28 : decode cX8_isSo 28 = .ok (.ifCond .eq 39, 3) := by decide +kernel
theorem dX8_isSo_31 : decode cX8_isSo 31 = .ok (.iload_n 3, 1) := by decide +kernel
theorem dX8_isSo_32 : decode cX8_isSo 32 = .ok (.aload_n 0, 1) := by decide +kernel
theorem dX8_isSo_33 : decode cX8_isSo 33 = .ok (.getfield 13, 3) := by decide +kernel
theorem dX8_isSo_36 : decode cX8_isSo 36 = .ok (.iconst 1, 1) := by decide +kernel
theorem dX8_isSo_37 : decode cX8_isSo 37 = .ok (.iaload, 1) := by decide +kernel
theorem dX8_isSo_38 : decode cX8_isSo 38 = .ok (.if_icmp .ge 29, 3) := by decide +kernel
theorem dX8_isSo_41 : decode cX8_isSo 41 = .ok (.aload_n 0, 1) := by decide +kernel
theorem dX8_isSo_42 : decode cX8_isSo 42 = .ok (.getfield 30, 3) := by decide +kernel
theorem dX8_isSo_45 : decode cX8_isSo 45 = .ok (.iload_n 3, 1) := by decide +kernel
theorem dX8_isSo_46 : decode cX8_isSo 46 = .ok (.iaload, 1) := by decide +kernel
theorem dX8_isSo_47 : decode cX8_isSo 47 = .ok (.aload_n 0, 1) := by decide +kernel
theorem dX8_isSo_48 : decode cX8_isSo 48 = .ok (.getfield 7, 3) := by decide +kernel
theorem dX8_isSo_51 : decode cX8_isSo 51 = .ok (.bipush 14, 2) := by decide +kernel
theorem dX8_isSo_53 : decode cX8_isSo 53 = .ok (.iconst 2, 1) := by decide +kernel
theorem dX8_isSo_54 : decode cX8_isSo 54 = .ok (.iload_n 2, 1) := by decide +kernel
theorem dX8_isSo_55 : decode cX8_isSo 55 = .ok (.imul, 1) := by decide +kernel
theorem dX8_isSo_56 : decode cX8_isSo 56 = .ok (.iadd, 1) := by decide +kernel
theorem dX8_isSo_57 : decode cX8_isSo 57 = .ok (.iconst 1, 1) := by decide +kernel
theorem dX8_isSo_58 : decode cX8_isSo 58 = .ok (.iadd, 1) := by decide +kernel
theorem dX8_isSo_59 : decode cX8_isSo 59 = .ok (.iaload, 1) := by decide +kernel
theorem dX8_isSo_60 : decode cX8_isSo 60 = .ok (.if_icmp .ne 7, 3) := by decide +kernel
theorem dX8_isSo_63 : decode cX8_isSo 63 = .ok (.iconst 1, 1) := by decide +kernel
theorem dX8_isSo_64 : decode cX8_isSo 64 = .ok (.goto 4, 3) := by decide +kernel
theorem dX8_isSo_67 : decode cX8_isSo 67 = .ok (.iconst 0, 1) := by decide +kernel
theorem dX8_isSo_68 : decode cX8_isSo 68 = .ok (.istore_n 1, 1) := by decide +kernel
theorem dX8_isSo_69 : decode cX8_isSo 69 = .ok (.iinc 2 1, 3) := by decide +kernel
theorem dX8_isSo_72 : decode cX8_isSo 72 = .ok (.goto (-68), 3) := by decide +kernel
theorem dX8_isSo_75 : decode cX8_isSo 75 = .ok (.iload_n 1, 1) := by decide +kernel
theorem dX8_isSo_76 : decode cX8_isSo 76 = .ok (.ireturn, 1) := by decide +kernel
theorem dX8_judges_0 : decode cX8_judges 0 = .ok (.iconst 0, 1) := by decide +kernel
theorem dX8_judges_1 : decode cX8_judges 1 = .ok (.istore_n 1, 1) := by decide +kernel
theorem dX8_judges_2 : decode cX8_judges 2 = .ok (.aload_n 0, 1) := by decide +kernel
theorem dX8_judges_3 : decode cX8_judges 3 = .ok (.invokevirtual 168, 3) := by decide +kernel
theorem dX8_judges_6 : decode cX8_judges 6 = .ok (.iconst 0, 1) := by decide +kernel
theorem dX8_judges_7 : decode cX8_judges 7 = .ok (.istore_n 2, 1) := by decide +kernel
theorem dX8_judges_8 : decode cX8_judges 8 = .ok (.iload_n 2, 1) := by decide +kernel
theorem dX8_judges_9 : decode cX8_judges 9 = .ok (.iconst 4, 1) := by decide +kernel
theorem dX8_judges_10 : decode cX8_judges 10 = .ok (.if_icmp .ge 32, 3) := by decide +kernel
theorem dX8_judges_13 : decode cX8_judges 13 = .ok (.aload_n 0, 1) := by decide +kernel
theorem dX8_judges_14 : decode cX8_judges 14 = .ok (.aload_n 0, 1) := by decide +kernel
theorem dX8_judges_15 : decode cX8_judges 15 = .ok (.getfield 13, 3) := by decide +kernel
theorem dX8_judges_18 : decode cX8_judges 18 = .ok (.iconst 0, 1) := by decide +kernel
theorem dX8_judges_19 : decode cX8_judges 19 = .ok (.iaload, 1) := by decide +kernel
theorem dX8_judges_20 : decode cX8_judges 20 = .ok (.iload_n 2, 1) := by decide +kernel
theorem dX8_judges_21 : decode cX8_judges 21 = .ok (.invokevirtual 161, 3) := by decide +kernel
theorem dX8_judges_24 : decode cX8_judges 24 = .ok (.iload_n 1, 1) := by decide +kernel
theorem dX8_judges_25 : decode cX8_judges 25 = .ok (.aload_n 0, 1) := by decide +kernel
theorem dX8_judges_26 : decode cX8_judges 26 = .ok (.invokevirtual 256, 3) := by decide +kernel
theorem dX8_judges_29 : decode cX8_judges 29 = .ok (.invokestatic 181, 3) := by decide +kernel
theorem dX8_judges_32 : decode cX8_judges 32 = .ok (.iload_n 2, 1) := by decide +kernel
theorem dX8_judges_33 : decode cX8_judges 33 = .ok (.ishl, 1) := by decide +kernel
theorem dX8_judges_34 : decode cX8_judges 34 = .ok (.ior, 1) := by decide +kernel
theorem dX8_judges_35 : decode cX8_judges 35 = .ok (.istore_n 1, 1) := by decide +kernel
theorem dX8_judges_36 : decode cX8_judges 36 = .ok (.iinc 2 1, 3) := by decide +kernel
theorem dX8_judges_39 : decode cX8_judges 39 = .ok (.goto (-31), 3) := by decide +kernel
theorem dX8_judges_42 : decode cX8_judges 42 = .ok (.iload_n 1, 1) := by decide +kernel
theorem dX8_judges_43 : decode cX8_judges 43 = .ok (.ireturn, 1) := by decide +kernel
theorem dX8_isHerdSo_0 : decode cX8_isHerdSo 0 = .ok (.aload_n 0, 1) := by decide +kernel
theorem dX8_isHerdSo_1 : decode cX8_isHerdSo 1 = .ok (.iload_n 1, 1) := by decide +kernel
theorem dX8_isHerdSo_2 : decode cX8_isHerdSo 2 = .ok (.aload_n 0, 1) := by decide +kernel
theorem dX8_isHerdSo_3 : decode cX8_isHerdSo 3 = .ok (.getfield 13, 3) := by decide +kernel
theorem dX8_isHerdSo_6 : decode cX8_isHerdSo 6 = .ok (.iconst 2, 1) := by decide +kernel
theorem dX8_isHerdSo_7 : decode cX8_isHerdSo 7 = .ok (.iaload, 1) := by decide +kernel
theorem dX8_isHerdSo_8 : decode cX8_isHerdSo 8 = .ok (.invokevirtual 161, 3) := by decide +kernel
theorem dX8_isHerdSo_11 : decode cX8_isHerdSo 11 = .ok (.aload_n 0, 1) := by decide +kernel
theorem dX8_isHerdSo_12 : decode cX8_isHerdSo 12 = .ok (.invokevirtual 256, 3) := by decide +kernel
theorem dX8_isHerdSo_15 : decode cX8_isHerdSo 15 = .ok (.ireturn, 1) := by decide +kernel
theorem dX8_isDownSo_0 : decode cX8_isDownSo 0 = .ok (.aload_n 0, 1) := by decide +kernel
theorem dX8_isDownSo_1 : decode cX8_isDownSo 1 = .ok (.getfield 13, 3) := by decide +kernel
theorem dX8_isDownSo_4 : decode cX8_isDownSo 4 = .ok (.iconst 3, 1) := by decide +kernel
theorem dX8_isDownSo_5 : decode cX8_isDownSo 5 = .ok (.iconst 2, 1) := by decide +kernel
theorem dX8_isDownSo_6 : decode cX8_isDownSo 6 = .ok (.iload_n 1, 1) := by decide +kernel
theorem dX8_isDownSo_7 : decode cX8_isDownSo 7 = .ok (.imul, 1) := by decide +kernel
theorem dX8_isDownSo_8 : decode cX8_isDownSo 8 = .ok (.iadd, 1) := by decide +kernel
theorem dX8_isDownSo_9 : decode cX8_isDownSo 9 = .ok (.iconst 1, 1) := by decide +kernel
theorem dX8_isDownSo_10 : decode cX8_isDownSo 10 = .ok (.iadd, 1) := by decide +kernel
theorem dX8_isDownSo_11 : decode cX8_isDownSo 11 = .ok (.iload_n 2, 1) := by decide +kernel
theorem dX8_isDownSo_12 : decode cX8_isDownSo 12 = .ok (.iastore, 1) := by decide +kernel
theorem dX8_isDownSo_13 : decode cX8_isDownSo 13 = .ok (.aload_n 0, 1) := by decide +kernel
theorem dX8_isDownSo_14 : decode cX8_isDownSo 14 = .ok (.invokevirtual 148, 3) := by decide +kernel
theorem dX8_isDownSo_17 : decode cX8_isDownSo 17 = .ok (.aload_n 0, 1) := by decide +kernel
theorem dX8_isDownSo_18 : decode cX8_isDownSo 18 = .ok (.invokevirtual 171, 3) := by decide +kernel
theorem dX8_isDownSo_21 : decode cX8_isDownSo 21 = .ok (.aload_n 0, 1) := by decide +kernel
theorem dX8_isDownSo_22 : decode cX8_isDownSo 22 = .ok (.invokevirtual 256, 3) := by decide +kernel
theorem dX8_isDownSo_25 : decode cX8_isDownSo 25 = .ok (.ireturn, 1) := by decide +kernel
theorem dX8_ofThree_0 : decode cX8_ofThree 0 = .ok (.iload_n 1, 1) := by decide +kernel
theorem dX8_ofThree_1 : decode cX8_ofThree 1 = .ok (.ifCond .ne 7, 3) := by decide +kernel
theorem dX8_ofThree_4 : decode cX8_ofThree 4 = .ok (.iload_n 2, 1) := by decide +kernel
theorem dX8_ofThree_5 : decode cX8_ofThree 5 = .ok (.goto 14, 3) := by decide +kernel
theorem dX8_ofThree_8 : decode cX8_ofThree 8 = .ok (.iload_n 1, 1) := by decide +kernel
theorem dX8_ofThree_9 : decode cX8_ofThree 9 = .ok (.iconst 1, 1) := by decide +kernel
theorem dX8_ofThree_10 : decode cX8_ofThree 10 = .ok (.if_icmp .ne 7, 3) := by decide +kernel
theorem dX8_ofThree_13 : decode cX8_ofThree 13 = .ok (.iload_n 3, 1) := by decide +kernel
theorem dX8_ofThree_14 : decode cX8_ofThree 14 = .ok (.goto 5, 3) := by decide +kernel
theorem dX8_ofThree_17 : decode cX8_ofThree 17 = .ok (.iload 4, 2) := by decide +kernel
theorem dX8_ofThree_19 : decode cX8_ofThree 19 = .ok (.ireturn, 1) := by decide +kernel
theorem dX8_herds_0 : decode cX8_herds 0 = .ok (.iload_n 1, 1) := by decide +kernel
theorem dX8_herds_1 : decode cX8_herds 1 = .ok (.i2l, 1) := by decide +kernel
theorem dX8_herds_2 : decode cX8_herds 2 = .ok (.lconst 0, 1) := by decide +kernel
theorem dX8_herds_3 : decode cX8_herds 3 = .ok (.ldc2_w 260, 3) := by decide +kernel
theorem dX8_herds_6 : decode cX8_herds 6 = .ok (.invokestatic 75, 3) := by decide +kernel
theorem dX8_herds_9 : decode cX8_herds 9 = .ok (.ifCond .ne 5, 3) := by decide +kernel
theorem dX8_herds_12 : decode cX8_herds 12 = .ok (.iconst (-1), 1) := by decide +kernel
theorem dX8_herds_13 : decode cX8_herds 13 = .ok (.ireturn, 1) := by decide +kernel
theorem dX8_herds_14 : decode cX8_herds 14 = .ok (.iconst 0, 1) := by decide +kernel
theorem dX8_herds_15 : decode cX8_herds 15 = .ok (.istore_n 2, 1) := by decide +kernel
theorem dX8_herds_16 : decode cX8_herds 16 = .ok (.bipush (-4), 2) := by decide +kernel
theorem dX8_herds_18 : decode cX8_herds 18 = .ok (.istore_n 3, 1) := by decide +kernel
theorem dX8_herds_19 : decode cX8_herds 19 = .ok (.bipush (-4), 2) := by decide +kernel
theorem dX8_herds_21 : decode cX8_herds 21 = .ok (.istore 4, 2) := by decide +kernel
theorem dX8_herds_23 : decode cX8_herds 23 = .ok (.aload_n 0, 1) := by decide +kernel
theorem dX8_herds_24 : decode cX8_herds 24 = .ok (.invokevirtual 168, 3) := by decide +kernel
theorem dX8_herds_27 : decode cX8_herds 27 = .ok (.iconst 0, 1) := by decide +kernel
theorem dX8_herds_28 : decode cX8_herds 28 = .ok (.istore 5, 2) := by decide +kernel
theorem dX8_herds_30 : decode cX8_herds 30 = .ok (.iload 5, 2) := by decide +kernel
theorem dX8_herds_32 : decode cX8_herds 32 = .ok (.sipush 200, 3) := by decide +kernel
theorem dX8_herds_35 : decode cX8_herds 35 = .ok (.if_icmp .gt 36, 3) := by decide +kernel
theorem dX8_herds_38 : decode cX8_herds 38 = .ok (.aload_n 0, 1) := by decide +kernel
theorem dX8_herds_39 : decode cX8_herds 39 = .ok (.iload 5, 2) := by decide +kernel
theorem dX8_herds_41 : decode cX8_herds 41 = .ok (.invokevirtual 262, 3) := by decide +kernel
theorem dX8_herds_44 : decode cX8_herds 44 = .ok (.ifCond .eq 21, 3) := by decide +kernel
theorem dX8_herds_47 : decode cX8_herds 47 = .ok (.iload_n 2, 1) := by decide +kernel
theorem dX8_herds_48 : decode cX8_herds 48 = .ok (.ifCond .ne 8, 3) := by decide +kernel
theorem dX8_herds_51 : decode cX8_herds 51 = .ok (.iload 5, 2) := by decide +kernel
theorem dX8_herds_53 : decode cX8_herds 53 = .ok (.goto 4, 3) := by decide +kernel
theorem dX8_herds_56 : decode cX8_herds 56 = .ok (.iload_n 3, 1) := by decide +kernel
theorem dX8_herds_57 : decode cX8_herds 57 = .ok (.istore_n 3, 1) := by decide +kernel
theorem dX8_herds_58 : decode cX8_herds 58 = .ok (.iload 5, 2) := by decide +kernel
theorem dX8_herds_60 : decode cX8_herds 60 = .ok (.istore 4, 2) := by decide +kernel
theorem dX8_herds_62 : decode cX8_herds 62 = .ok (.iinc 2 1, 3) := by decide +kernel
theorem dX8_herds_65 : decode cX8_herds 65 = .ok (.iinc 5 1, 3) := by decide +kernel
theorem dX8_herds_68 : decode cX8_herds 68 = .ok (.goto (-38), 3) := by decide +kernel
theorem dX8_herds_71 : decode cX8_herds 71 = .ok (.aload_n 0, 1) := by decide +kernel
theorem dX8_herds_72 : decode cX8_herds 72 = .ok (.iload_n 1, 1) := by decide +kernel
theorem dX8_herds_73 : decode cX8_herds 73 = .ok (.iload_n 2, 1) := by decide +kernel
theorem dX8_herds_74 : decode cX8_herds 74 = .ok (.iload_n 3, 1) := by decide +kernel
theorem dX8_herds_75 : decode cX8_herds 75 = .ok (.iload 4, 2) := by decide +kernel
theorem dX8_herds_77 : decode cX8_herds 77 = .ok (.invokevirtual 265, 3) := by decide +kernel
theorem dX8_herds_80 : decode cX8_herds 80 = .ok (.ireturn, 1) := by decide +kernel
theorem dX8_downs_0 : decode cX8_downs 0 = .ok (.aload_n 0, 1) := by decide +kernel
theorem dX8_downs_1 : decode cX8_downs 1 = .ok (.iload_n 1, 1) := by decide +kernel
theorem dX8_downs_2 : decode cX8_downs 2 = .ok (.invokevirtual 177, 3) := by decide +kernel
theorem dX8_downs_5 : decode cX8_downs 5 = .ok (.ifCond .eq 15, 3) := by decide +kernel
theorem dX8_downs_8 : decode cX8_downs 8 = .ok (.iload_n 2, 1) := by decide +kernel
theorem dX8_downs_9 : decode cX8_downs 9 = .ok (.i2l, 1) := by decide +kernel
theorem dX8_downs_10 : decode cX8_downs 10 = .ok (.lconst 0, 1) := by decide +kernel
theorem dX8_downs_11 : decode cX8_downs 11 = .ok (.ldc2_w 260, 3) := by decide +kernel
theorem dX8_downs_14 : decode cX8_downs 14 = .ok (.invokestatic 75, 3) := by decide +kernel
theorem dX8_downs_17 : decode cX8_downs 17 = .ok (.ifCond .ne 5, 3) := by decide +kernel
theorem dX8_downs_20 : decode cX8_downs 20 = .ok (.iconst (-1), 1) := by decide +kernel
theorem dX8_downs_21 : decode cX8_downs 21 = .ok (.ireturn, 1) := by decide +kernel
theorem dX8_downs_22 : decode cX8_downs 22 = .ok (.iconst 0, 1) := by decide +kernel
theorem dX8_downs_23 : decode cX8_downs 23 = .ok (.istore_n 3, 1) := by decide +kernel
theorem dX8_downs_24 : decode cX8_downs 24 = .ok (.bipush (-4), 2) := by decide +kernel
theorem dX8_downs_26 : decode cX8_downs 26 = .ok (.istore 4, 2) := by decide +kernel
theorem dX8_downs_28 : decode cX8_downs 28 = .ok (.bipush (-4), 2) := by decide +kernel
theorem dX8_downs_30 : decode cX8_downs 30 = .ok (.istore 5, 2) := by decide +kernel
theorem dX8_downs_32 : decode cX8_downs 32 = .ok (.aload_n 0, 1) := by decide +kernel
theorem dX8_downs_33 : decode cX8_downs 33 = .ok (.invokevirtual 168, 3) := by decide +kernel
theorem dX8_downs_36 : decode cX8_downs 36 = .ok (.iconst 1, 1) := by decide +kernel
theorem dX8_downs_37 : decode cX8_downs 37 = .ok (.istore 6, 2) := by decide +kernel
theorem dX8_downs_39 : decode cX8_downs 39 = .ok (.iload 6, 2) := by decide +kernel
theorem dX8_downs_41 : decode cX8_downs 41 = .ok (.bipush 99, 2) := by decide +kernel
theorem dX8_downs_43 : decode cX8_downs 43 = .ok (.if_icmp .gt 39, 3) := by decide +kernel
theorem dX8_downs_46 : decode cX8_downs 46 = .ok (.aload_n 0, 1) := by decide +kernel
theorem dX8_downs_47 : decode cX8_downs 47 = .ok (.iload_n 1, 1) := by decide +kernel
theorem dX8_downs_48 : decode cX8_downs 48 = .ok (.iload 6, 2) := by decide +kernel
theorem dX8_downs_50 : decode cX8_downs 50 = .ok (.invokevirtual 269, 3) := by decide +kernel
theorem dX8_downs_53 : decode cX8_downs 53 = .ok (.ifCond .eq 23, 3) := by decide +kernel
theorem dX8_downs_56 : decode cX8_downs 56 = .ok (.iload_n 3, 1) := by decide +kernel
theorem dX8_downs_57 : decode cX8_downs 57 = .ok (.ifCond .ne 8, 3) := by decide +kernel
theorem dX8_downs_60 : decode cX8_downs 60 = .ok (.iload 6, 2) := by decide +kernel
theorem dX8_downs_62 : decode cX8_downs 62 = .ok (.goto 5, 3) := by decide +kernel
theorem dX8_downs_65 : decode cX8_downs 65 = .ok (.iload 4, 2) := by decide +kernel
theorem dX8_downs_67 : decode cX8_downs 67 = .ok (.istore 4, 2) := by decide +kernel
theorem dX8_downs_69 : decode cX8_downs 69 = .ok (.iload 6, 2) := by decide +kernel
theorem dX8_downs_71 : decode cX8_downs 71 = .ok (.istore 5, 2) := by decide +kernel
theorem dX8_downs_73 : decode cX8_downs 73 = .ok (.iinc 3 1, 3) := by decide +kernel
theorem dX8_downs_76 : decode cX8_downs 76 = .ok (.iinc 6 1, 3) := by decide +kernel
theorem dX8_downs_79 : decode cX8_downs 79 = .ok (.goto (-40), 3) := by decide +kernel
theorem dX8_downs_82 : decode cX8_downs 82 = .ok (.aload_n 0, 1) := by decide +kernel
theorem dX8_downs_83 : decode cX8_downs 83 = .ok (.iload_n 2, 1) := by decide +kernel
theorem dX8_downs_84 : decode cX8_downs 84 = .ok (.iload_n 3, 1) := by decide +kernel
theorem dX8_downs_85 : decode cX8_downs 85 = .ok (.iload 4, 2) := by decide +kernel
theorem dX8_downs_87 : decode cX8_downs 87 = .ok (.iload 5, 2) := by decide +kernel
theorem dX8_downs_89 : decode cX8_downs 89 = .ok (.invokevirtual 265, 3) := by decide +kernel
theorem dX8_downs_92 : decode cX8_downs 92 = .ok (.ireturn, 1) := by decide +kernel
theorem dX8_ask_0 : decode cX8_ask 0 = .ok (.iload_n 1, 1) := by decide +kernel
theorem dX8_ask_1 : decode cX8_ask 1 = .ok (.invokestatic 189, 3) := by decide +kernel
theorem dX8_ask_4 : decode cX8_ask 4 = .ok (.ifCond .ne 5, 3) := by decide +kernel
theorem dX8_ask_7 : decode cX8_ask 7 = .ok (.iconst (-1), 1) := by decide +kernel
theorem dX8_ask_8 : decode cX8_ask 8 = .ok (.ireturn, 1) := by decide +kernel
theorem dX8_ask_9 : decode cX8_ask 9 = .ok (.iconst 0, 1) := by decide +kernel
theorem dX8_ask_10 : decode cX8_ask 10 = .ok (.istore_n 2, 1) := by decide +kernel
theorem dX8_ask_11 : decode cX8_ask 11 = .ok (.bipush (-4), 2) := by decide +kernel
theorem dX8_ask_13 : decode cX8_ask 13 = .ok (.istore_n 3, 1) := by decide +kernel
theorem dX8_ask_14 : decode cX8_ask 14 = .ok (.iconst 0, 1) := by decide +kernel
theorem dX8_ask_15 : decode cX8_ask 15 = .ok (.istore 4, 2) := by decide +kernel
theorem dX8_ask_17 : decode cX8_ask 17 = .ok (.iload 4, 2) := by decide +kernel
theorem dX8_ask_19 : decode cX8_ask 19 = .ok (.sipush 1005, 3) := by decide +kernel
theorem dX8_ask_22 : decode cX8_ask 22 = .ok (.if_icmp .ge 17, 3) := by decide +kernel
theorem dX8_ask_25 : decode cX8_ask 25 = .ok (.aload_n 0, 1) := by decide +kernel
theorem dX8_ask_26 : decode cX8_ask 26 = .ok (.getfield 45, 3) := by decide +kernel
theorem dX8_ask_29 : decode cX8_ask 29 = .ok (.iload 4, 2) := by decide +kernel
theorem dX8_ask_31 : decode cX8_ask 31 = .ok (.iconst 0, 1) := by decide +kernel
theorem dX8_ask_32 : decode cX8_ask 32 = .ok (.iastore, 1) := by decide +kernel
theorem dX8_ask_33 : decode cX8_ask 33 = .ok (.iinc 4 1, 3) := by decide +kernel
theorem dX8_ask_36 : decode cX8_ask 36 = .ok (.goto (-19), 3) := by decide +kernel
theorem dX8_ask_39 : decode cX8_ask 39 = .ok (.aload_n 0, 1) := by decide +kernel
theorem dX8_ask_40 : decode cX8_ask 40 = .ok (.invokevirtual 168, 3) := by decide +kernel
theorem dX8_ask_43 : decode cX8_ask 43 = .ok (.iconst 0, 1) := by decide +kernel
theorem dX8_ask_44 : decode cX8_ask 44 = .ok (.istore 4, 2) := by decide +kernel
theorem dX8_ask_46 : decode cX8_ask 46 = .ok (.iload 4, 2) := by decide +kernel
theorem dX8_ask_48 : decode cX8_ask 48 = .ok (.sipush 200, 3) := by decide +kernel
theorem dX8_ask_51 : decode cX8_ask 51 = .ok (.if_icmp .gt 64, 3) := by decide +kernel
theorem dX8_ask_54 : decode cX8_ask 54 = .ok (.aload_n 0, 1) := by decide +kernel
theorem dX8_ask_55 : decode cX8_ask 55 = .ok (.iload 4, 2) := by decide +kernel
theorem dX8_ask_57 : decode cX8_ask 57 = .ok (.invokevirtual 262, 3) := by decide +kernel
theorem dX8_ask_60 : decode cX8_ask 60 = .ok (.ifCond .eq 49, 3) := by decide +kernel
theorem dX8_ask_63 : decode cX8_ask 63 = .ok (.iinc 2 1, 3) := by decide +kernel
theorem dX8_ask_66 : decode cX8_ask 66 = .ok (.iconst 0, 1) := by decide +kernel
theorem dX8_ask_67 : decode cX8_ask 67 = .ok (.istore 5, 2) := by decide +kernel
theorem dX8_ask_69 : decode cX8_ask 69 = .ok (.iload 5, 2) := by decide +kernel
theorem dX8_ask_71 : decode cX8_ask 71 = .ok (.aload_n 0, 1) := by decide +kernel
theorem dX8_ask_72 : decode cX8_ask 72 = .ok (.getfield 13, 3) := by decide +kernel
theorem dX8_ask_75 : decode cX8_ask 75 = .ok (.iconst 1, 1) := by decide +kernel
theorem dX8_ask_76 : decode cX8_ask 76 = .ok (.iaload, 1) := by decide +kernel
theorem dX8_ask_77 : decode cX8_ask 77 = .ok (.if_icmp .ge 32, 3) := by decide +kernel
theorem dX8_ask_80 : decode cX8_ask 80 = .ok (.aload_n 0, 1) := by decide +kernel
theorem dX8_ask_81 : decode cX8_ask 81 = .ok (.getfield 45, 3) := by decide +kernel
theorem dX8_ask_84 : decode cX8_ask 84 = .ok (.sipush 201, 3) := by decide +kernel
theorem dX8_ask_87 : decode cX8_ask 87 = .ok (.iload 5, 2) := by decide +kernel
theorem dX8_ask_89 : decode cX8_ask 89 = .ok (.imul, 1) := by decide +kernel
theorem dX8_ask_90 : decode cX8_ask 90 = .ok (.aload_n 0, 1) := by decide +kernel
theorem dX8_ask_91 : decode cX8_ask 91 = .ok (.getfield 30, 3) := by decide +kernel
theorem dX8_ask_94 : decode cX8_ask 94 = .ok (.iload 5, 2) := by decide +kernel
theorem dX8_ask_96 : decode cX8_ask 96 = .ok (.iaload, 1) := by decide +kernel
theorem dX8_ask_97 : decode cX8_ask 97 = .ok (.iadd, 1) := by decide +kernel
theorem dX8_ask_98 : decode cX8_ask 98 = .ok (.dup2, 1) := by decide +kernel
theorem dX8_ask_99 : decode cX8_ask 99 = .ok (.iaload, 1) := by decide +kernel
theorem dX8_ask_100 : decode cX8_ask 100 = .ok (.iconst 1, 1) := by decide +kernel
theorem dX8_ask_101 : decode cX8_ask 101 = .ok (.iadd, 1) := by decide +kernel
theorem dX8_ask_102 : decode cX8_ask 102 = .ok (.iastore, 1) := by decide +kernel
theorem dX8_ask_103 : decode cX8_ask 103 = .ok (.iinc 5 1, 3) := by decide +kernel
theorem dX8_ask_106 : decode cX8_ask 106 = .ok (.goto (-37), 3) := by decide +kernel
theorem dX8_ask_109 : decode cX8_ask 109 = .ok (.iinc 4 1, 3) := by decide +kernel
theorem dX8_ask_112 : decode cX8_ask 112 = .ok (.goto (-66), 3) := by decide +kernel
theorem dX8_ask_115 : decode cX8_ask 115 = .ok (.iconst 0, 1) := by decide +kernel
theorem dX8_ask_116 : decode cX8_ask 116 = .ok (.istore 4, 2) := by decide +kernel
theorem dX8_ask_118 : decode cX8_ask 118 = .ok (.iload 4, 2) := by decide +kernel
theorem dX8_ask_120 : decode cX8_ask 120 = .ok (.aload_n 0, 1) := by decide +kernel
theorem dX8_ask_121 : decode cX8_ask 121 = .ok (.getfield 13, 3) := by decide +kernel
theorem dX8_ask_124 : decode cX8_ask 124 = .ok (.iconst 1, 1) := by decide +kernel
theorem dX8_ask_125 : decode cX8_ask 125 = .ok (.iaload, 1) := by decide +kernel
theorem dX8_ask_126 : decode cX8_ask 126 = .ok (.if_icmp .ge 95, 3) := by decide +kernel
theorem dX8_ask_129 : decode cX8_ask 129 = .ok (.iconst 0, 1) := by decide +kernel
theorem dX8_ask_130 : decode cX8_ask 130 = .ok (.istore 5, 2) := by decide +kernel
theorem dX8_ask_132 : decode cX8_ask 132 = .ok (.iconst 0, 1) := by decide +kernel
theorem dX8_ask_133 : decode cX8_ask 133 = .ok (.istore 6, 2) := by decide +kernel
theorem dX8_ask_135 : decode cX8_ask 135 = .ok (.iload 6, 2) := by decide +kernel
theorem dX8_ask_137 : decode cX8_ask 137 = .ok (.sipush 200, 3) := by decide +kernel
theorem dX8_ask_140 : decode cX8_ask 140 = .ok (.if_icmp .gt 49, 3) := by decide +kernel
theorem dX8_ask_143 : decode cX8_ask 143 = .ok (.aload_n 0, 1) := by decide +kernel
theorem dX8_ask_144 : decode cX8_ask 144 = .ok (.getfield 45, 3) := by decide +kernel
theorem dX8_ask_147 : decode cX8_ask 147 = .ok (.sipush 201, 3) := by decide +kernel
theorem dX8_ask_150 : decode cX8_ask 150 = .ok (.iload 4, 2) := by decide +kernel
theorem dX8_ask_152 : decode cX8_ask 152 = .ok (.imul, 1) := by decide +kernel
theorem dX8_ask_153 : decode cX8_ask 153 = .ok (.iload 6, 2) := by decide +kernel
theorem dX8_ask_155 : decode cX8_ask 155 = .ok (.iadd, 1) := by decide +kernel
theorem dX8_ask_156 : decode cX8_ask 156 = .ok (.iaload, 1) := by decide +kernel
theorem dX8_ask_157 : decode cX8_ask 157 = .ok (.iload 5, 2) := by decide +kernel
theorem dX8_ask_159 : decode cX8_ask 159 = .ok (.if_icmp .le 20, 3) := by decide +kernel
theorem dX8_ask_162 : decode cX8_ask 162 = .ok (.aload_n 0, 1) := by decide +kernel
theorem dX8_ask_163 : decode cX8_ask 163 = .ok (.getfield 45, 3) := by decide +kernel
theorem dX8_ask_166 : decode cX8_ask 166 = .ok (.sipush 201, 3) := by decide +kernel
theorem dX8_ask_169 : decode cX8_ask 169 = .ok (.iload 4, 2) := by decide +kernel
theorem dX8_ask_171 : decode cX8_ask 171 = .ok (.imul, 1) := by decide +kernel
theorem dX8_ask_172 : decode cX8_ask 172 = .ok (.iload 6, 2) := by decide +kernel
theorem dX8_ask_174 : decode cX8_ask 174 = .ok (.iadd, 1) := by decide +kernel
theorem dX8_ask_175 : decode cX8_ask 175 = .ok (.iaload, 1) := by decide +kernel
theorem dX8_ask_176 : decode cX8_ask 176 = .ok (.goto 5, 3) := by decide +kernel
theorem dX8_ask_179 : decode cX8_ask 179 = .ok (.iload 5, 2) := by decide +kernel
theorem dX8_ask_181 : decode cX8_ask 181 = .ok (.istore 5, 2) := by decide +kernel
theorem dX8_ask_183 : decode cX8_ask 183 = .ok (.iinc 6 1, 3) := by decide +kernel
theorem dX8_ask_186 : decode cX8_ask 186 = .ok (.goto (-51), 3) := by decide +kernel
theorem dX8_ask_189 : decode cX8_ask 189 = .ok (.iload 5, 2) := by decide +kernel
theorem dX8_ask_191 : decode cX8_ask 191 = .ok (.iload_n 2, 1) := by decide +kernel
theorem dX8_ask_192 : decode cX8_ask 192 = .ok (.if_icmp .ge 8, 3) := by decide +kernel
theorem dX8_ask_195 : decode cX8_ask 195 = .ok (.iload 4, 2) := by decide +kernel
theorem dX8_ask_197 : decode cX8_ask 197 = .ok (.goto 4, 3) := by decide +kernel
theorem dX8_ask_200 : decode cX8_ask 200 = .ok (.iload_n 3, 1) := by decide +kernel
theorem dX8_ask_201 : decode cX8_ask 201 = .ok (.istore_n 3, 1) := by decide +kernel
theorem dX8_ask_202 : decode cX8_ask 202 = .ok (.iload 5, 2) := by decide +kernel
theorem dX8_ask_204 : decode cX8_ask 204 = .ok (.iload_n 2, 1) := by decide +kernel
theorem dX8_ask_205 : decode cX8_ask 205 = .ok (.if_icmp .ge 8, 3) := by decide +kernel
theorem dX8_ask_208 : decode cX8_ask 208 = .ok (.iload 5, 2) := by decide +kernel
theorem dX8_ask_210 : decode cX8_ask 210 = .ok (.goto 4, 3) := by decide +kernel
theorem dX8_ask_213 : decode cX8_ask 213 = .ok (.iload_n 2, 1) := by decide +kernel
theorem dX8_ask_214 : decode cX8_ask 214 = .ok (.istore_n 2, 1) := by decide +kernel
theorem dX8_ask_215 : decode cX8_ask 215 = .ok (.iinc 4 1, 3) := by decide +kernel
theorem dX8_ask_218 : decode cX8_ask 218 = .ok (.goto (-100), 3) := by decide +kernel
theorem dX8_ask_221 : decode cX8_ask 221 = .ok (.iload_n 3, 1) := by decide +kernel
theorem dX8_ask_222 : decode cX8_ask 222 = .ok (.bipush (-4), 2) := by decide +kernel
theorem dX8_ask_224 : decode cX8_ask 224 = .ok (.if_icmp .ne 8, 3) := by decide +kernel
theorem dX8_ask_227 : decode cX8_ask 227 = .ok (.bipush (-4), 2) := by decide +kernel
theorem dX8_ask_229 : decode cX8_ask 229 = .ok (.goto 12, 3) := by decide +kernel
theorem dX8_ask_232 : decode cX8_ask 232 = .ok (.iload_n 1, 1) := by decide +kernel
theorem dX8_ask_233 : decode cX8_ask 233 = .ok (.ifCond .ne 7, 3) := by decide +kernel
theorem dX8_ask_236 : decode cX8_ask 236 = .ok (.iload_n 3, 1) := by decide +kernel
theorem dX8_ask_237 : decode cX8_ask 237 = .ok (.goto 4, 3) := by decide +kernel
theorem dX8_ask_240 : decode cX8_ask 240 = .ok (.iload_n 2, 1) := by decide +kernel
theorem dX8_ask_241 : decode cX8_ask 241 = .ok (.ireturn, 1) := by decide +kernel
theorem dX8_drift_0 : decode cX8_drift 0 = .ok (.iload_n 2, 1) := by decide +kernel
theorem dX8_drift_1 : decode cX8_drift 1 = .ok (.i2l, 1) := by decide +kernel
theorem dX8_drift_2 : decode cX8_drift 2 = .ok (.lconst 1, 1) := by decide +kernel
theorem dX8_drift_3 : decode cX8_drift 3 = .ok (.ldc2_w 272, 3) := by decide +kernel
theorem dX8_drift_6 : decode cX8_drift 6 = .ok (.invokestatic 75, 3) := by decide +kernel
theorem dX8_drift_9 : decode cX8_drift 9 = .ok (.ifCond .eq 10, 3) := by decide +kernel
theorem dX8_drift_12 : decode cX8_drift 12 = .ok (.iload_n 3, 1) := by decide +kernel
theorem dX8_drift_13 : decode cX8_drift 13 = .ok (.invokestatic 189, 3) := by decide +kernel
theorem dX8_drift_16 : decode cX8_drift 16 = .ok (.ifCond .ne 5, 3) := by decide +kernel
theorem dX8_drift_19 : decode cX8_drift 19 = .ok (.iconst (-1), 1) := by decide +kernel
theorem dX8_drift_20 : decode cX8_drift 20 = .ok (.ireturn, 1) := by decide +kernel
theorem dX8_drift_21 : decode cX8_drift 21 = .ok (.aload_n 0, 1) := by decide +kernel
theorem dX8_drift_22 : decode cX8_drift 22 = .ok (.getfield 7, 3) := by decide +kernel
theorem dX8_drift_25 : decode cX8_drift 25 = .ok (.iconst 1, 1) := by decide +kernel
theorem dX8_drift_26 : decode cX8_drift 26 = .ok (.iaload, 1) := by decide +kernel
theorem dX8_drift_27 : decode cX8_drift 27 = .ok (.ifCond .ne 6, 3) := by decide +kernel
theorem dX8_drift_30 : decode cX8_drift 30 = .ok (.bipush (-2), 2) := by decide +kernel
theorem dX8_drift_32 : decode cX8_drift 32 = .ok (.ireturn, 1) := by decide +kernel
theorem dX8_drift_33 : decode cX8_drift 33 = .ok (.iload_n 1, 1) := by decide +kernel
theorem dX8_drift_34 : decode cX8_drift 34 = .ok (.istore 4, 2) := by decide +kernel
theorem dX8_drift_36 : decode cX8_drift 36 = .ok (.iconst 0, 1) := by decide +kernel
theorem dX8_drift_37 : decode cX8_drift 37 = .ok (.istore 5, 2) := by decide +kernel
theorem dX8_drift_39 : decode cX8_drift 39 = .ok (.iconst 0, 1) := by decide +kernel
theorem dX8_drift_40 : decode cX8_drift 40 = .ok (.istore 6, 2) := by decide +kernel
theorem dX8_drift_42 : decode cX8_drift 42 = .ok (.aload_n 0, 1) := by decide +kernel
theorem dX8_drift_43 : decode cX8_drift 43 = .ok (.invokevirtual 168, 3) := by decide +kernel
theorem dX8_drift_46 : decode cX8_drift 46 = .ok (.iconst 0, 1) := by decide +kernel
theorem dX8_drift_47 : decode cX8_drift 47 = .ok (.istore 7, 2) := by decide +kernel
theorem dX8_drift_49 : decode cX8_drift 49 = .ok (.iload 7, 2) := by decide +kernel
theorem dX8_drift_51 : decode cX8_drift 51 = .ok (.iload_n 2, 1) := by decide +kernel
theorem dX8_drift_52 : decode cX8_drift 52 = .ok (.if_icmp .ge 82, 3) := by decide +kernel
theorem dX8_drift_55 : decode cX8_drift 55 = .ok (.iload 4, 2) := by decide +kernel
theorem dX8_drift_57 : decode cX8_drift 57 = .ok (.ldc_w 274, 3) := by decide +kernel
theorem dX8_drift_60 : decode cX8_drift 60 = .ok (.imul, 1) := by decide +kernel
theorem dX8_drift_61 : decode cX8_drift 61 = .ok (.sipush 12345, 3) := by decide +kernel
theorem dX8_drift_64 : decode cX8_drift 64 = .ok (.iadd, 1) := by decide +kernel
theorem dX8_drift_65 : decode cX8_drift 65 = .ok (.istore 4, 2) := by decide +kernel
theorem dX8_drift_67 : decode cX8_drift 67 = .ok (.iload 4, 2) := by decide +kernel
theorem dX8_drift_69 : decode cX8_drift 69 = .ok (.bipush 16, 2) := by decide +kernel
theorem dX8_drift_71 : decode cX8_drift 71 = .ok (.ishr, 1) := by decide +kernel
theorem dX8_drift_72 : decode cX8_drift 72 = .ok (.sipush 32767, 3) := by decide +kernel
theorem dX8_drift_75 : decode cX8_drift 75 = .ok (.iand, 1) := by decide +kernel
theorem dX8_drift_76 : decode cX8_drift 76 = .ok (.bipush 100, 2) := by decide +kernel
theorem dX8_drift_78 : decode cX8_drift 78 = .ok (.irem, 1) := by decide +kernel
theorem dX8_drift_79 : decode cX8_drift 79 = .ok (.istore 8, 2) := by decide +kernel
theorem dX8_drift_81 : decode cX8_drift 81 = .ok (.aload_n 0, 1) := by decide +kernel
theorem dX8_drift_82 : decode cX8_drift 82 = .ok (.iload 8, 2) := by decide +kernel
theorem dX8_drift_84 : decode cX8_drift 84 = .ok (.aload_n 0, 1) := by decide +kernel
theorem dX8_drift_85 : decode cX8_drift 85 = .ok (.getfield 13, 3) := by decide +kernel
theorem dX8_drift_88 : decode cX8_drift 88 = .ok (.iconst 2, 1) := by decide +kernel
theorem dX8_drift_89 : decode cX8_drift 89 = .ok (.iaload, 1) := by decide +kernel
theorem dX8_drift_90 : decode cX8_drift 90 = .ok (.invokevirtual 161, 3) := by decide +kernel
theorem dX8_drift_93 : decode cX8_drift 93 = .ok (.iload 5, 2) := by decide +kernel
theorem dX8_drift_95 : decode cX8_drift 95 = .ok (.aload_n 0, 1) := by decide +kernel
theorem dX8_drift_96 : decode cX8_drift 96 = .ok (.getfield 30, 3) := by decide +kernel
theorem dX8_drift_99 : decode cX8_drift 99 = .ok (.iconst 0, 1) := by decide +kernel
theorem dX8_drift_100 : decode cX8_drift 100 = .ok (.iaload, 1) := by decide +kernel
theorem dX8_drift_101 : decode cX8_drift 101 = .ok (.iadd, 1) := by decide +kernel
theorem dX8_drift_102 : decode cX8_drift 102 = .ok (.istore 5, 2) := by decide +kernel
theorem dX8_drift_104 : decode cX8_drift 104 = .ok (.iload 6, 2) := by decide +kernel
theorem dX8_drift_106 : decode cX8_drift 106 = .ok (.aload_n 0, 1) := by decide +kernel
theorem dX8_drift_107 : decode cX8_drift 107 = .ok (.iload 8, 2) := by decide +kernel
theorem dX8_drift_109 : decode cX8_drift 109 = .ok (.invokevirtual 236, 3) := by decide +kernel
theorem dX8_drift_112 : decode cX8_drift 112 = .ok (.bipush (-4), 2) := by decide +kernel
theorem dX8_drift_114 : decode cX8_drift 114 = .ok (.if_icmp .eq 7, 3) := by decide +kernel
theorem dX8_drift_117 : decode cX8_drift 117 = .ok (.iconst 1, 1) := by decide +kernel
theorem dX8_drift_118 : decode cX8_drift 118 = .ok (.goto 4, 3) := by decide +kernel
theorem dX8_drift_121 : decode cX8_drift 121 = .ok (.iconst 0, 1) := by decide +kernel
theorem dX8_drift_122 : decode cX8_drift 122 = .ok (.invokestatic 181, 3) := by decide +kernel
theorem dX8_drift_125 : decode cX8_drift 125 = .ok (.iadd, 1) := by decide +kernel
theorem dX8_drift_126 : decode cX8_drift 126 = .ok (.istore 6, 2) := by decide +kernel
theorem dX8_drift_128 : decode cX8_drift 128 = .ok (.iinc 7 1, 3) := by decide +kernel
theorem dX8_drift_131 : decode cX8_drift 131 = .ok (.goto (-82), 3) := by decide +kernel
theorem dX8_drift_134 : decode cX8_drift 134 = .ok (.iload_n 3, 1) := by decide +kernel
theorem dX8_drift_135 : decode cX8_drift 135 = .ok (.ifCond .ne 8, 3) := by decide +kernel
theorem dX8_drift_138 : decode cX8_drift 138 = .ok (.iload 5, 2) := by decide +kernel
theorem dX8_drift_140 : decode cX8_drift 140 = .ok (.goto 5, 3) := by decide +kernel
theorem dX8_drift_143 : decode cX8_drift 143 = .ok (.iload 6, 2) := by decide +kernel
theorem dX8_drift_145 : decode cX8_drift 145 = .ok (.ireturn, 1) := by decide +kernel
theorem dX8_copies_0 : decode cX8_copies 0 = .ok (.iconst 0, 1) := by decide +kernel
theorem dX8_copies_1 : decode cX8_copies 1 = .ok (.istore_n 3, 1) := by decide +kernel
theorem dX8_copies_2 : decode cX8_copies 2 = .ok (.iload_n 3, 1) := by decide +kernel
theorem dX8_copies_3 : decode cX8_copies 3 = .ok (.bipush 26, 2) := by decide +kernel
theorem dX8_copies_5 : decode cX8_copies 5 = .ok (.if_icmp .ge 25, 3) := by decide +kernel
theorem dX8_copies_8 : decode cX8_copies 8 = .ok (.aload_n 0, 1) := by decide +kernel
theorem dX8_copies_9 : decode cX8_copies 9 = .ok (.getfield 7, 3) := by decide +kernel
theorem dX8_copies_12 : decode cX8_copies 12 = .ok (.iload_n 1, 1) := by decide +kernel
theorem dX8_copies_13 : decode cX8_copies 13 = .ok (.iload_n 3, 1) := by decide +kernel
theorem dX8_copies_14 : decode cX8_copies 14 = .ok (.iadd, 1) := by decide +kernel
theorem dX8_copies_15 : decode cX8_copies 15 = .ok (.aload_n 0, 1) := by decide +kernel
theorem dX8_copies_16 : decode cX8_copies 16 = .ok (.getfield 7, 3) := by decide +kernel
theorem dX8_copies_19 : decode cX8_copies 19 = .ok (.iload_n 2, 1) := by decide +kernel
theorem dX8_copies_20 : decode cX8_copies 20 = .ok (.iload_n 3, 1) := by decide +kernel
theorem dX8_copies_21 : decode cX8_copies 21 = .ok (.iadd, 1) := by decide +kernel
theorem dX8_copies_22 : decode cX8_copies 22 = .ok (.iaload, 1) := by decide +kernel
theorem dX8_copies_23 : decode cX8_copies 23 = .ok (.iastore, 1) := by decide +kernel
theorem dX8_copies_24 : decode cX8_copies 24 = .ok (.iinc 3 1, 3) := by decide +kernel
theorem dX8_copies_27 : decode cX8_copies 27 = .ok (.goto (-25), 3) := by decide +kernel
theorem dX8_copies_30 : decode cX8_copies 30 = .ok (.return_, 1) := by decide +kernel
theorem dX8_keep_0 : decode cX8_keep 0 = .ok (.iload_n 1, 1) := by decide +kernel
theorem dX8_keep_1 : decode cX8_keep 1 = .ok (.i2l, 1) := by decide +kernel
theorem dX8_keep_2 : decode cX8_keep 2 = .ok (.lconst 0, 1) := by decide +kernel
theorem dX8_keep_3 : decode cX8_keep 3 = .ok (.lconst 1, 1) := by decide +kernel
theorem dX8_keep_4 : decode cX8_keep 4 = .ok (.invokestatic 75, 3) := by decide +kernel
theorem dX8_keep_7 : decode cX8_keep 7 = .ok (.ifCond .ne 5, 3) := by decide +kernel
theorem dX8_keep_10 : decode cX8_keep 10 = .ok (.iconst (-1), 1) := by decide +kernel
theorem dX8_keep_11 : decode cX8_keep 11 = .ok (.ireturn, 1) := by decide +kernel
theorem dX8_keep_12 : decode cX8_keep 12 = .ok (.aload_n 0, 1) := by decide +kernel
theorem dX8_keep_13 : decode cX8_keep 13 = .ok (.getfield 16, 3) := by decide +kernel
theorem dX8_keep_16 : decode cX8_keep 16 = .ok (.iload_n 1, 1) := by decide +kernel
theorem dX8_keep_17 : decode cX8_keep 17 = .ok (.baload, 1) := by decide +kernel
theorem dX8_keep_18 : decode cX8_keep 18 = .ok (.invokestatic 181, 3) := by decide +kernel
theorem dX8_keep_21 : decode cX8_keep 21 = .ok (.istore_n 2, 1) := by decide +kernel
theorem dX8_keep_22 : decode cX8_keep 22 = .ok (.aload_n 0, 1) := by decide +kernel
theorem dX8_keep_23 : decode cX8_keep 23 = .ok (.getfield 16, 3) := by decide +kernel
theorem dX8_keep_26 : decode cX8_keep 26 = .ok (.iload_n 1, 1) := by decide +kernel
theorem dX8_keep_27 : decode cX8_keep 27 = .ok (.iconst 1, 1) := by decide +kernel
theorem dX8_keep_28 : decode cX8_keep 28 = .ok (.bastore, 1) := by decide +kernel
theorem dX8_keep_29 : decode cX8_keep 29 = .ok (.aload_n 0, 1) := by decide +kernel
theorem dX8_keep_30 : decode cX8_keep 30 = .ok (.bipush 26, 2) := by decide +kernel
theorem dX8_keep_32 : decode cX8_keep 32 = .ok (.iload_n 1, 1) := by decide +kernel
theorem dX8_keep_33 : decode cX8_keep 33 = .ok (.iconst 1, 1) := by decide +kernel
theorem dX8_keep_34 : decode cX8_keep 34 = .ok (.iadd, 1) := by decide +kernel
theorem dX8_keep_35 : decode cX8_keep 35 = .ok (.imul, 1) := by decide +kernel
theorem dX8_keep_36 : decode cX8_keep 36 = .ok (.iconst 0, 1) := by decide +kernel
theorem dX8_keep_37 : decode cX8_keep 37 = .ok (.invokevirtual 275, 3) := by decide +kernel
theorem dX8_keep_40 : decode cX8_keep 40 = .ok (.iload_n 2, 1) := by decide +kernel
theorem dX8_keep_41 : decode cX8_keep 41 = .ok (.ireturn, 1) := by decide +kernel
theorem dX8_back_0 : decode cX8_back 0 = .ok (.iload_n 1, 1) := by decide +kernel
theorem dX8_back_1 : decode cX8_back 1 = .ok (.i2l, 1) := by decide +kernel
theorem dX8_back_2 : decode cX8_back 2 = .ok (.lconst 0, 1) := by decide +kernel
theorem dX8_back_3 : decode cX8_back 3 = .ok (.lconst 1, 1) := by decide +kernel
theorem dX8_back_4 : decode cX8_back 4 = .ok (.invokestatic 75, 3) := by decide +kernel
theorem dX8_back_7 : decode cX8_back 7 = .ok (.ifCond .ne 5, 3) := by decide +kernel
theorem dX8_back_10 : decode cX8_back 10 = .ok (.iconst (-1), 1) := by decide +kernel
theorem dX8_back_11 : decode cX8_back 11 = .ok (.ireturn, 1) := by decide +kernel
theorem dX8_back_12 : decode cX8_back 12 = .ok (.aload_n 0, 1) := by decide +kernel
theorem dX8_back_13 : decode cX8_back 13 = .ok (.getfield 16, 3) := by decide +kernel
theorem dX8_back_16 : decode cX8_back 16 = .ok (.iload_n 1, 1) := by decide +kernel
theorem dX8_back_17 : decode cX8_back 17 = .ok (.baload, 1) := by decide +kernel
theorem dX8_back_18 : decode cX8_back 18 = .ok (.ifCond .ne 6, 3) := by decide +kernel
theorem dX8_back_21 : decode cX8_back 21 = .ok (.bipush (-2), 2) := by decide +kernel
theorem dX8_back_23 : decode cX8_back 23 = .ok (.ireturn, 1) := by decide +kernel
theorem dX8_back_24 : decode cX8_back 24 = .ok (.aload_n 0, 1) := by decide +kernel
theorem dX8_back_25 : decode cX8_back 25 = .ok (.iconst 0, 1) := by decide +kernel
theorem dX8_back_26 : decode cX8_back 26 = .ok (.bipush 26, 2) := by decide +kernel
theorem dX8_back_28 : decode cX8_back 28 = .ok (.iload_n 1, 1) := by decide +kernel
theorem dX8_back_29 : decode cX8_back 29 = .ok (.iconst 1, 1) := by decide +kernel
theorem dX8_back_30 : decode cX8_back 30 = .ok (.iadd, 1) := by decide +kernel
theorem dX8_back_31 : decode cX8_back 31 = .ok (.imul, 1) := by decide +kernel
theorem dX8_back_32 : decode cX8_back 32 = .ok (.invokevirtual 275, 3) := by decide +kernel
theorem dX8_back_35 : decode cX8_back 35 = .ok (.aload_n 0, 1) := by decide +kernel
theorem dX8_back_36 : decode cX8_back 36 = .ok (.getfield 7, 3) := by decide +kernel
theorem dX8_back_39 : decode cX8_back 39 = .ok (.iconst 0, 1) := by decide +kernel
theorem dX8_back_40 : decode cX8_back 40 = .ok (.iaload, 1) := by decide +kernel
theorem dX8_back_41 : decode cX8_back 41 = .ok (.ireturn, 1) := by decide +kernel
theorem dX8_isSheet_0 : decode cX8_isSheet 0 = .ok (.iload_n 0, 1) := by decide +kernel
theorem dX8_isSheet_1 : decode cX8_isSheet 1 = .ok (.i2l, 1) := by decide +kernel
theorem dX8_isSheet_2 : decode cX8_isSheet 2 = .ok (.lconst 0, 1) := by decide +kernel
theorem dX8_isSheet_3 : decode cX8_isSheet 3 = .ok (.ldc2_w 139, 3) := by decide +kernel
theorem dX8_isSheet_6 : decode cX8_isSheet 6 = .ok (.invokestatic 75, 3) := by decide +kernel
theorem dX8_isSheet_9 : decode cX8_isSheet 9 = .ok (.ifCond .eq 19, 3) := by decide +kernel
theorem dX8_isSheet_12 : decode cX8_isSheet 12 = .ok (.iload_n 1, 1) := by decide +kernel
theorem dX8_isSheet_13 : decode cX8_isSheet 13 = .ok (.i2l, 1) := by decide +kernel
theorem dX8_isSheet_14 : decode cX8_isSheet 14 = .ok (.lconst 0, 1) := by decide +kernel
theorem dX8_isSheet_15 : decode cX8_isSheet 15 = .ok (.ldc2_w 260, 3) := by decide +kernel
theorem dX8_isSheet_18 : decode cX8_isSheet 18 = .ok (.invokestatic 75, 3) := by decide +kernel
theorem dX8_isSheet_21 : decode cX8_isSheet 21 = .ok (.ifCond .eq 7, 3) := by decide +kernel
theorem dX8_isSheet_24 : decode cX8_isSheet 24 = .ok (.iconst 1, 1) := by decide +kernel
theorem dX8_isSheet_25 : decode cX8_isSheet 25 = .ok (.goto 4, 3) := by decide +kernel
theorem dX8_isSheet_28 : decode cX8_isSheet 28 = .ok (.iconst 0, 1) := by decide +kernel
theorem dX8_isSheet_29 : decode cX8_isSheet 29 = .ok (.ireturn, 1) := by decide +kernel
theorem dX8_sheet_0 : decode cX8_sheet 0 = .ok (.iload_n 1, 1) := by decide +kernel
theorem dX8_sheet_1 : decode cX8_sheet 1 = .ok (.iload_n 2, 1) := by decide +kernel
theorem dX8_sheet_2 : decode cX8_sheet 2 = .ok (.invokestatic 278, 3) := by decide +kernel
theorem dX8_sheet_5 : decode cX8_sheet 5 = .ok (.ifCond .eq 9, 3) := by decide +kernel
theorem dX8_sheet_8 : decode cX8_sheet 8 = .ok (.iload_n 3, 1) := by decide +kernel
theorem dX8_sheet_9 : decode cX8_sheet 9 = .ok (.bipush 40, 2) := by decide +kernel
theorem dX8_sheet_11 : decode cX8_sheet 11 = .ok (.if_icmp .le 5, 3) := by decide +kernel
theorem dX8_sheet_14 : decode cX8_sheet 14 = .ok (.iconst (-1), 1) := by decide +kernel
theorem dX8_sheet_15 : decode cX8_sheet 15 = .ok (.ireturn, 1) := by decide +kernel
theorem dX8_sheet_16 : decode cX8_sheet 16 = .ok (.iload_n 3, 1) := by decide +kernel
theorem dX8_sheet_17 : decode cX8_sheet 17 = .ok (.ifCond .ge 6, 3) := by decide +kernel
theorem dX8_sheet_20 : decode cX8_sheet 20 = .ok (.bipush (-14), 2) := by decide +kernel
theorem dX8_sheet_22 : decode cX8_sheet 22 = .ok (.ireturn, 1) := by decide +kernel
theorem dX8_sheet_23 : decode cX8_sheet 23 = .ok (.aload_n 0, 1) := by decide +kernel
theorem dX8_sheet_24 : decode cX8_sheet 24 = .ok (.getfield 48, 3) := by decide +kernel
theorem dX8_sheet_27 : decode cX8_sheet 27 = .ok (.iload_n 1, 1) := by decide +kernel
theorem dX8_sheet_28 : decode cX8_sheet 28 = .ok (.iload_n 2, 1) := by decide +kernel
theorem dX8_sheet_29 : decode cX8_sheet 29 = .ok (.iastore, 1) := by decide +kernel
theorem dX8_sheet_30 : decode cX8_sheet 30 = .ok (.aload_n 0, 1) := by decide +kernel
theorem dX8_sheet_31 : decode cX8_sheet 31 = .ok (.getfield 51, 3) := by decide +kernel
theorem dX8_sheet_34 : decode cX8_sheet 34 = .ok (.iload_n 1, 1) := by decide +kernel
theorem dX8_sheet_35 : decode cX8_sheet 35 = .ok (.iload_n 3, 1) := by decide +kernel
theorem dX8_sheet_36 : decode cX8_sheet 36 = .ok (.iastore, 1) := by decide +kernel
theorem dX8_sheet_37 : decode cX8_sheet 37 = .ok (.iconst 0, 1) := by decide +kernel
theorem dX8_sheet_38 : decode cX8_sheet 38 = .ok (.istore 4, 2) := by decide +kernel
theorem dX8_sheet_40 : decode cX8_sheet 40 = .ok (.iload 4, 2) := by decide +kernel
theorem dX8_sheet_42 : decode cX8_sheet 42 = .ok (.bipush 40, 2) := by decide +kernel
theorem dX8_sheet_44 : decode cX8_sheet 44 = .ok (.if_icmp .ge 22, 3) := by decide +kernel
theorem dX8_sheet_47 : decode cX8_sheet 47 = .ok (.aload_n 0, 1) := by decide +kernel
theorem dX8_sheet_48 : decode cX8_sheet 48 = .ok (.getfield 54, 3) := by decide +kernel
theorem dX8_sheet_51 : decode cX8_sheet 51 = .ok (.bipush 40, 2) := by decide +kernel
theorem dX8_sheet_53 : decode cX8_sheet 53 = .ok (.iload_n 1, 1) := by decide +kernel
theorem dX8_sheet_54 : decode cX8_sheet 54 = .ok (.imul, 1) := by decide +kernel
theorem dX8_sheet_55 : decode cX8_sheet 55 = .ok (.iload 4, 2) := by decide +kernel
theorem dX8_sheet_57 : decode cX8_sheet 57 = .ok (.iadd, 1) := by decide +kernel
theorem dX8_sheet_58 : decode cX8_sheet 58 = .ok (.iconst 0, 1) := by decide +kernel
theorem dX8_sheet_59 : decode cX8_sheet 59 = .ok (.iastore, 1) := by decide +kernel
theorem dX8_sheet_60 : decode cX8_sheet 60 = .ok (.iinc 4 1, 3) := by decide +kernel
theorem dX8_sheet_63 : decode cX8_sheet 63 = .ok (.goto (-23), 3) := by decide +kernel
theorem dX8_sheet_66 : decode cX8_sheet 66 = .ok (.iconst 1, 1) := by decide +kernel
theorem dX8_sheet_67 : decode cX8_sheet 67 = .ok (.ireturn, 1) := by decide +kernel
theorem dX8_lay_0 : decode cX8_lay 0 = .ok (.iload_n 1, 1) := by decide +kernel
theorem dX8_lay_1 : decode cX8_lay 1 = .ok (.iconst 0, 1) := by decide +kernel
theorem dX8_lay_2 : decode cX8_lay 2 = .ok (.invokestatic 278, 3) := by decide +kernel
theorem dX8_lay_5 : decode cX8_lay 5 = .ok (.ifCond .ne 5, 3) := by decide +kernel
theorem dX8_lay_8 : decode cX8_lay 8 = .ok (.iconst (-1), 1) := by decide +kernel
theorem dX8_lay_9 : decode cX8_lay 9 = .ok (.ireturn, 1) := by decide +kernel
theorem dX8_lay_10 : decode cX8_lay 10 = .ok (.aload_n 0, 1) := by decide +kernel
theorem dX8_lay_11 : decode cX8_lay 11 = .ok (.getfield 48, 3) := by decide +kernel
theorem dX8_lay_14 : decode cX8_lay 14 = .ok (.iload_n 1, 1) := by decide +kernel
theorem dX8_lay_15 : decode cX8_lay 15 = .ok (.iaload, 1) := by decide +kernel
theorem dX8_lay_16 : decode cX8_lay 16 = .ok (.bipush (-4), 2) := by decide +kernel
theorem dX8_lay_18 : decode cX8_lay 18 = .ok (.if_icmp .ne 6, 3) := by decide +kernel
theorem dX8_lay_21 : decode cX8_lay 21 = .ok (.bipush (-11), 2) := by decide +kernel
theorem dX8_lay_23 : decode cX8_lay 23 = .ok (.ireturn, 1) := by decide +kernel
theorem dX8_lay_24 : decode cX8_lay 24 = .ok (.iload_n 2, 1) := by decide +kernel
theorem dX8_lay_25 : decode cX8_lay 25 = .ok (.i2l, 1) := by decide +kernel
theorem dX8_lay_26 : decode cX8_lay 26 = .ok (.lconst 0, 1) := by decide +kernel
theorem dX8_lay_27 : decode cX8_lay 27 = .ok (.aload_n 0, 1) := by decide +kernel
theorem dX8_lay_28 : decode cX8_lay 28 = .ok (.getfield 51, 3) := by decide +kernel
theorem dX8_lay_31 : decode cX8_lay 31 = .ok (.iload_n 1, 1) := by decide +kernel
theorem dX8_lay_32 : decode cX8_lay 32 = .ok (.iaload, 1) := by decide +kernel
theorem dX8_lay_33 : decode cX8_lay 33 = .ok (.iconst 1, 1) := by decide +kernel
theorem dX8_lay_34 : decode cX8_lay 34 = .ok (.isub, 1) := by decide +kernel
theorem dX8_lay_35 : decode cX8_lay 35 = .ok (.i2l, 1) := by decide +kernel
theorem dX8_lay_36 : decode cX8_lay 36 = .ok (.invokestatic 75, 3) := by decide +kernel
theorem dX8_lay_39 : decode cX8_lay 39 = .ok (.ifCond .ne 6, 3) := by decide +kernel
theorem dX8_lay_42 : decode cX8_lay 42 = .ok (.bipush (-12), 2) := by decide +kernel
theorem dX8_lay_44 : decode cX8_lay 44 = .ok (.ireturn, 1) := by decide +kernel
theorem dX8_lay_45 : decode cX8_lay 45 = .ok (.aload_n 0, 1) := by decide +kernel
theorem dX8_lay_46 : decode cX8_lay 46 = .ok (.getfield 54, 3) := by decide +kernel
theorem dX8_lay_49 : decode cX8_lay 49 = .ok (.bipush 40, 2) := by decide +kernel
theorem dX8_lay_51 : decode cX8_lay 51 = .ok (.iload_n 1, 1) := by decide +kernel
theorem dX8_lay_52 : decode cX8_lay 52 = .ok (.imul, 1) := by decide +kernel
theorem dX8_lay_53 : decode cX8_lay 53 = .ok (.iload_n 2, 1) := by decide +kernel
theorem dX8_lay_54 : decode cX8_lay 54 = .ok (.iadd, 1) := by decide +kernel
theorem dX8_lay_55 : decode cX8_lay 55 = .ok (.aload_n 0, 1) := by decide +kernel
theorem dX8_lay_56 : decode cX8_lay 56 = .ok (.getfield 48, 3) := by decide +kernel
theorem dX8_lay_59 : decode cX8_lay 59 = .ok (.iload_n 1, 1) := by decide +kernel
theorem dX8_lay_60 : decode cX8_lay 60 = .ok (.iaload, 1) := by decide +kernel
theorem dX8_lay_61 : decode cX8_lay 61 = .ok (.ifCond .ne 8, 3) := by decide +kernel
theorem dX8_lay_64 : decode cX8_lay 64 = .ok (.iload_n 3, 1) := by decide +kernel
theorem dX8_lay_65 : decode cX8_lay 65 = .ok (.i2b, 1) := by decide +kernel
theorem dX8_lay_66 : decode cX8_lay 66 = .ok (.goto 19, 3) := by decide +kernel
theorem dX8_lay_69 : decode cX8_lay 69 = .ok (.aload_n 0, 1) := by decide +kernel
theorem dX8_lay_70 : decode cX8_lay 70 = .ok (.getfield 48, 3) := by decide +kernel
theorem dX8_lay_73 : decode cX8_lay 73 = .ok (.iload_n 1, 1) := by decide +kernel
theorem dX8_lay_74 : decode cX8_lay 74 = .ok (.iaload, 1) := by decide +kernel
theorem dX8_lay_75 : decode cX8_lay 75 = .ok (.iconst 1, 1) := by decide +kernel
theorem dX8_lay_76 : decode cX8_lay 76 = .ok (.if_icmp .ne 8, 3) := by decide +kernel
theorem dX8_lay_79 : decode cX8_lay 79 = .ok (.iload_n 3, 1) := by decide +kernel
theorem dX8_lay_80 : decode cX8_lay 80 = .ok (.i2s, 1) := by decide +kernel
theorem dX8_lay_81 : decode cX8_lay 81 = .ok (.goto 4, 3) := by decide +kernel
theorem dX8_lay_84 : decode cX8_lay 84 = .ok (.iload_n 3, 1) := by decide +kernel
theorem dX8_lay_85 : decode cX8_lay 85 = .ok (.iastore, 1) := by decide +kernel
theorem dX8_lay_86 : decode cX8_lay 86 = .ok (.iconst 1, 1) := by decide +kernel
theorem dX8_lay_87 : decode cX8_lay 87 = .ok (.ireturn, 1) := by decide +kernel
theorem dX8_read_0 : decode cX8_read 0 = .ok (.iload_n 1, 1) := by decide +kernel
theorem dX8_read_1 : decode cX8_read 1 = .ok (.iload_n 2, 1) := by decide +kernel
theorem dX8_read_2 : decode cX8_read 2 = .ok (.invokestatic 278, 3) := by decide +kernel
theorem dX8_read_5 : decode cX8_read 5 = .ok (.ifCond .eq 16, 3) := by decide +kernel
theorem dX8_read_8 : decode cX8_read 8 = .ok (.iload 4, 2) := by decide +kernel
theorem dX8_read_10 : decode cX8_read 10 = .ok (.i2l, 1) := by decide +kernel
theorem dX8_read_11 : decode cX8_read 11 = .ok (.lconst 0, 1) := by decide +kernel
theorem dX8_read_12 : decode cX8_read 12 = .ok (.ldc2_w 281, 3) := by decide +kernel
theorem dX8_read_15 : decode cX8_read 15 = .ok (.invokestatic 75, 3) := by decide +kernel
theorem dX8_read_18 : decode cX8_read 18 = .ok (.ifCond .ne 5, 3) := by decide +kernel
theorem dX8_read_21 : decode cX8_read 21 = .ok (.iconst (-1), 1) := by decide +kernel
theorem dX8_read_22 : decode cX8_read 22 = .ok (.ireturn, 1) := by decide +kernel
theorem dX8_read_23 : decode cX8_read 23 = .ok (.iconst 0, 1) := by decide +kernel
theorem dX8_read_24 : decode cX8_read 24 = .ok (.istore 5, 2) := by decide +kernel
theorem dX8_read_26 : decode cX8_read 26 = .ok (.iload 5, 2) := by decide +kernel
theorem dX8_read_28 : decode cX8_read 28 = .ok (.bipush 26, 2) := by decide +kernel
theorem dX8_read_30 : decode cX8_read 30 = .ok (.if_icmp .ge 23, 3) := by decide +kernel
theorem dX8_read_33 : decode cX8_read 33 = .ok (.aload_n 0, 1) := by decide +kernel
theorem dX8_read_34 : decode cX8_read 34 = .ok (.getfield 57, 3) := by decide +kernel
theorem dX8_read_37 : decode cX8_read 37 = .ok (.iload 5, 2) := by decide +kernel
theorem dX8_read_39 : decode cX8_read 39 = .ok (.aload_n 0, 1) := by decide +kernel
theorem dX8_read_40 : decode cX8_read 40 = .ok (.getfield 7, 3) := by decide +kernel
theorem dX8_read_43 : decode cX8_read 43 = .ok (.iload 5, 2) := by decide +kernel
theorem dX8_read_45 : decode cX8_read 45 = .ok (.iaload, 1) := by decide +kernel
theorem dX8_read_46 : decode cX8_read 46 = .ok (.iastore, 1) := by decide +kernel
theorem dX8_read_47 : decode cX8_read 47 = .ok (.iinc 5 1, 3) := by decide +kernel
theorem dX8_read_50 : decode cX8_read 50 = .ok (.goto (-24), 3) := by decide +kernel
theorem dX8_read_53 : decode cX8_read 53 = .ok (.iconst 0, 1) := by decide +kernel
theorem dX8_read_54 : decode cX8_read 54 = .ok (.istore 5, 2) := by decide +kernel
theorem dX8_read_56 : decode cX8_read 56 = .ok (.iconst 0, 1) := by decide +kernel
theorem dX8_read_57 : decode cX8_read 57 = .ok (.istore 6, 2) := by decide +kernel
theorem dX8_read_59 : decode cX8_read 59 = .ok (.iconst 0, 1) := by decide +kernel
theorem dX8_read_60 : decode cX8_read 60 = .ok (.istore 7, 2) := by decide +kernel
theorem dX8_read_62 : decode cX8_read 62 = .ok (.iload 7, 2) := by decide +kernel
theorem dX8_read_64 : decode cX8_read 64 = .ok (.iload 4, 2) := by decide +kernel
theorem dX8_read_66 : decode cX8_read 66 = .ok (.if_icmp .ge 184, 3) := by decide +kernel
theorem dX8_read_69 : decode cX8_read 69 = .ok (.iload 5, 2) := by decide +kernel
theorem dX8_read_71 : decode cX8_read 71 = .ok (.ifCond .ne 179, 3) := by decide +kernel
theorem dX8_read_74 : decode cX8_read 74 = .ok (.iconst 0, 1) := by decide +kernel
theorem dX8_read_75 : decode cX8_read 75 = .ok (.istore 8, 2) := by decide +kernel
theorem dX8_read_77 : decode cX8_read 77 = .ok (.iload 8, 2) := by decide +kernel
theorem dX8_read_79 : decode cX8_read 79 = .ok (.iconst 2, 1) := by decide +kernel
theorem dX8_read_80 : decode cX8_read 80 = .ok (.if_icmp .ge 84, 3) := by decide +kernel
theorem dX8_read_83 : decode cX8_read 83 = .ok (.iload 5, 2) := by decide +kernel
theorem dX8_read_85 : decode cX8_read 85 = .ok (.ifCond .ne 79, 3) := by decide +kernel
theorem dX8_read_88 : decode cX8_read 88 = .ok (.iload_n 3, 1) := by decide +kernel
theorem dX8_read_89 : decode cX8_read 89 = .ok (.i2l, 1) := by decide +kernel
theorem dX8_read_90 : decode cX8_read 90 = .ok (.iconst 2, 1) := by decide +kernel
theorem dX8_read_91 : decode cX8_read 91 = .ok (.iload 7, 2) := by decide +kernel
theorem dX8_read_93 : decode cX8_read 93 = .ok (.imul, 1) := by decide +kernel
theorem dX8_read_94 : decode cX8_read 94 = .ok (.i2l, 1) := by decide +kernel
theorem dX8_read_95 : decode cX8_read 95 = .ok (.ladd, 1) := by decide +kernel
theorem dX8_read_96 : decode cX8_read 96 = .ok (.iload 8, 2) := by decide +kernel
theorem dX8_read_98 : decode cX8_read 98 = .ok (.i2l, 1) := by decide +kernel
theorem dX8_read_99 : decode cX8_read 99 = .ok (.ladd, 1) := by decide +kernel
theorem dX8_read_100 : decode cX8_read 100 = .ok (.lstore 9, 2) := by decide +kernel
theorem dX8_read_102 : decode cX8_read 102 = .ok (.aload_n 0, 1) := by decide +kernel
theorem dX8_read_103 : decode cX8_read 103 = .ok (.getfield 48, 3) := by decide +kernel
theorem dX8_read_106 : decode cX8_read 106 = .ok (.iload_n 1, 1) := by decide +kernel
theorem dX8_read_107 : decode cX8_read 107 = .ok (.iaload, 1) := by decide +kernel
theorem dX8_read_108 : decode cX8_read 108 = .ok (.bipush (-4), 2) := by decide +kernel
theorem dX8_read_110 : decode cX8_read 110 = .ok (.if_icmp .ne 7, 3) := by decide +kernel
theorem dX8_read_113 : decode cX8_read 113 = .ok (.iconst 1, 1) := by decide +kernel
theorem dX8_read_114 : decode cX8_read 114 = .ok (.goto 42, 3) := by decide +kernel
theorem dX8_read_117 : decode cX8_read 117 = .ok (.aload_n 0, 1) := by decide +kernel
theorem dX8_read_118 : decode cX8_read 118 = .ok (.getfield 48, 3) := by decide +kernel
theorem dX8_read_121 : decode cX8_read 121 = .ok (.iload_n 1, 1) := by decide +kernel
theorem dX8_read_122 : decode cX8_read 122 = .ok (.iaload, 1) := by decide +kernel
theorem dX8_read_123 : decode cX8_read 123 = .ok (.iload_n 2, 1) := by decide +kernel
theorem dX8_read_124 : decode cX8_read 124 = .ok (.if_icmp .eq 7, 3) := by decide +kernel
theorem dX8_read_127 : decode cX8_read 127 = .ok (.iconst 3, 1) := by decide +kernel
theorem dX8_read_128 : decode cX8_read 128 = .ok (.goto 28, 3) := by decide +kernel
theorem dX8_read_131 : decode cX8_read 131 = .ok (.lload 9, 2) := by decide +kernel
theorem dX8_read_133 : decode cX8_read 133 = .ok (.lconst 0, 1) := by decide +kernel
theorem dX8_read_134 : decode cX8_read 134 = .ok (.lcmp, 1) := by decide +kernel
theorem dX8_read_135 : decode cX8_read 135 = .ok (.ifCond .lt 16, 3) := by decide +kernel
theorem dX8_read_138 : decode cX8_read 138 = .ok (.lload 9, 2) := by decide +kernel
theorem dX8_read_140 : decode cX8_read 140 = .ok (.aload_n 0, 1) := by decide +kernel
theorem dX8_read_141 : decode cX8_read 141 = .ok (.getfield 51, 3) := by decide +kernel
theorem dX8_read_144 : decode cX8_read 144 = .ok (.iload_n 1, 1) := by decide +kernel
theorem dX8_read_145 : decode cX8_read 145 = .ok (.iaload, 1) := by decide +kernel
theorem dX8_read_146 : decode cX8_read 146 = .ok (.i2l, 1) := by decide +kernel
theorem dX8_read_147 : decode cX8_read 147 = .ok (.lcmp, 1) := by decide +kernel
theorem dX8_read_148 : decode cX8_read 148 = .ok (.ifCond .lt 7, 3) := by decide +kernel
theorem dX8_read_151 : decode cX8_read 151 = .ok (.iconst 2, 1) := by decide +kernel
theorem dX8_read_152 : decode cX8_read 152 = .ok (.goto 4, 3) := by decide +kernel
theorem dX8_read_155 : decode cX8_read 155 = .ok (.iconst 0, 1) := by decide +kernel
theorem dX8_read_156 : decode cX8_read 156 = .ok (.istore 5, 2) := by decide +kernel
theorem dX8_read_158 : decode cX8_read 158 = .ok (.iinc 8 1, 3) := by decide +kernel
theorem dX8_read_161 : decode cX8_read 161 = .ok (.goto (-84), 3) := by decide +kernel
theorem dX8_read_164 : decode cX8_read 164 = .ok (.iload 5, 2) := by decide +kernel
theorem dX8_read_166 : decode cX8_read 166 = .ok (.ifCond .ne 78, 3) := by decide +kernel
theorem dX8_read_169 : decode cX8_read 169 = .ok (.bipush 40, 2) := by decide +kernel
theorem dX8_read_171 : decode cX8_read 171 = .ok (.iload_n 1, 1) := by decide +kernel
theorem dX8_read_172 : decode cX8_read 172 = .ok (.imul, 1) := by decide +kernel
theorem dX8_read_173 : decode cX8_read 173 = .ok (.iload_n 3, 1) := by decide +kernel
theorem dX8_read_174 : decode cX8_read 174 = .ok (.iadd, 1) := by decide +kernel
theorem dX8_read_175 : decode cX8_read 175 = .ok (.iconst 2, 1) := by decide +kernel
theorem dX8_read_176 : decode cX8_read 176 = .ok (.iload 7, 2) := by decide +kernel
theorem dX8_read_178 : decode cX8_read 178 = .ok (.imul, 1) := by decide +kernel
theorem dX8_read_179 : decode cX8_read 179 = .ok (.iadd, 1) := by decide +kernel
theorem dX8_read_180 : decode cX8_read 180 = .ok (.istore 8, 2) := by decide +kernel
theorem dX8_read_182 : decode cX8_read 182 = .ok (.aload_n 0, 1) := by decide +kernel
theorem dX8_read_183 : decode cX8_read 183 = .ok (.aload_n 0, 1) := by decide +kernel
theorem dX8_read_184 : decode cX8_read 184 = .ok (.getfield 54, 3) := by decide +kernel
theorem dX8_read_187 : decode cX8_read 187 = .ok (.iload 8, 2) := by decide +kernel
theorem dX8_read_189 : decode cX8_read 189 = .ok (.iaload, 1) := by decide +kernel
theorem dX8_read_190 : decode cX8_read 190 = .ok (.aload_n 0, 1) := by decide +kernel
theorem dX8_read_191 : decode cX8_read 191 = .ok (.getfield 54, 3) := by decide +kernel
theorem dX8_read_194 : decode cX8_read 194 = .ok (.iload 8, 2) := by decide +kernel
theorem dX8_read_196 : decode cX8_read 196 = .ok (.iconst 1, 1) := by decide +kernel
theorem dX8_read_197 : decode cX8_read 197 = .ok (.iadd, 1) := by decide +kernel
theorem dX8_read_198 : decode cX8_read 198 = .ok (.iaload, 1) := by decide +kernel
theorem dX8_read_199 : decode cX8_read 199 = .ok (.invokevirtual 283, 3) := by decide +kernel
theorem dX8_read_202 : decode cX8_read 202 = .ok (.ifCond .ge 39, 3) := by decide +kernel
theorem dX8_read_205 : decode cX8_read 205 = .ok (.iconst 0, 1) := by decide +kernel
theorem dX8_read_206 : decode cX8_read 206 = .ok (.istore 9, 2) := by decide +kernel
theorem dX8_read_208 : decode cX8_read 208 = .ok (.iload 9, 2) := by decide +kernel
theorem dX8_read_210 : decode cX8_read 210 = .ok (.bipush 26, 2) := by decide +kernel
theorem dX8_read_212 : decode cX8_read 212 = .ok (.if_icmp .ge 23, 3) := by decide +kernel
theorem dX8_read_215 : decode cX8_read 215 = .ok (.aload_n 0, 1) := by decide +kernel
theorem dX8_read_216 : decode cX8_read 216 = .ok (.getfield 7, 3) := by decide +kernel
theorem dX8_read_219 : decode cX8_read 219 = .ok (.iload 9, 2) := by decide +kernel
theorem dX8_read_221 : decode cX8_read 221 = .ok (.aload_n 0, 1) := by decide +kernel
theorem dX8_read_222 : decode cX8_read 222 = .ok (.getfield 57, 3) := by decide +kernel
theorem dX8_read_225 : decode cX8_read 225 = .ok (.iload 9, 2) := by decide +kernel
theorem dX8_read_227 : decode cX8_read 227 = .ok (.iaload, 1) := by decide +kernel
theorem dX8_read_228 : decode cX8_read 228 = .ok (.iastore, 1) := by decide +kernel
theorem dX8_read_229 : decode cX8_read 229 = .ok (.iinc 9 1, 3) := by decide +kernel
theorem dX8_read_232 : decode cX8_read 232 = .ok (.goto (-24), 3) := by decide +kernel
theorem dX8_read_235 : decode cX8_read 235 = .ok (.bipush (-20), 2) := by decide +kernel
theorem dX8_read_237 : decode cX8_read 237 = .ok (.iload 7, 2) := by decide +kernel
theorem dX8_read_239 : decode cX8_read 239 = .ok (.isub, 1) := by decide +kernel
theorem dX8_read_240 : decode cX8_read 240 = .ok (.ireturn, 1) := by decide +kernel
theorem dX8_read_241 : decode cX8_read 241 = .ok (.iinc 6 1, 3) := by decide +kernel
theorem dX8_read_244 : decode cX8_read 244 = .ok (.iinc 7 1, 3) := by decide +kernel
theorem dX8_read_247 : decode cX8_read 247 = .ok (.goto (-185), 3) := by decide +kernel
theorem dX8_read_250 : decode cX8_read 250 = .ok (.aload_n 0, 1) := by decide +kernel
theorem dX8_read_251 : decode cX8_read 251 = .ok (.iload 5, 2) := by decide +kernel
theorem dX8_read_253 : decode cX8_read 253 = .ok (.putfield 286, 3) := by decide +kernel
theorem dX8_read_256 : decode cX8_read 256 = .ok (.iload 6, 2) := by decide +kernel
theorem dX8_read_258 : decode cX8_read 258 = .ok (.ireturn, 1) := by decide +kernel
theorem dX8_torn_0 : decode cX8_torn 0 = .ok (.aload_n 0, 1) := by decide +kernel
theorem dX8_torn_1 : decode cX8_torn 1 = .ok (.getfield 286, 3) := by decide +kernel
theorem dX8_torn_4 : decode cX8_torn 4 = .ok (.ireturn, 1) := by decide +kernel
theorem dX8_count_0 : decode cX8_count 0 = .ok (.aload_n 0, 1) := by decide +kernel
theorem dX8_count_1 : decode cX8_count 1 = .ok (.invokevirtual 168, 3) := by decide +kernel
theorem dX8_count_4 : decode cX8_count 4 = .ok (.aload_n 0, 1) := by decide +kernel
theorem dX8_count_5 : decode cX8_count 5 = .ok (.invokevirtual 171, 3) := by decide +kernel
theorem dX8_count_8 : decode cX8_count 8 = .ok (.iload_n 1, 1) := by decide +kernel
theorem dX8_count_9 : decode cX8_count 9 = .ok (.tableswitch 103 0 4 #[35, 43, 63, 68, 91], 35) := by decide +kernel
theorem dX8_count_44 : decode cX8_count 44 = .ok (.aload_n 0, 1) := by decide +kernel
theorem dX8_count_45 : decode cX8_count 45 = .ok (.getfield 7, 3) := by decide +kernel
theorem dX8_count_48 : decode cX8_count 48 = .ok (.bipush 13, 2) := by decide +kernel
theorem dX8_count_50 : decode cX8_count 50 = .ok (.iaload, 1) := by decide +kernel
theorem dX8_count_51 : decode cX8_count 51 = .ok (.ireturn, 1) := by decide +kernel
theorem dX8_count_52 : decode cX8_count 52 = .ok (.aload_n 0, 1) := by decide +kernel
theorem dX8_count_53 : decode cX8_count 53 = .ok (.getfield 16, 3) := by decide +kernel
theorem dX8_count_56 : decode cX8_count 56 = .ok (.iconst 0, 1) := by decide +kernel
theorem dX8_count_57 : decode cX8_count 57 = .ok (.baload, 1) := by decide +kernel
theorem dX8_count_58 : decode cX8_count 58 = .ok (.invokestatic 181, 3) := by decide +kernel
theorem dX8_count_61 : decode cX8_count 61 = .ok (.aload_n 0, 1) := by decide +kernel
theorem dX8_count_62 : decode cX8_count 62 = .ok (.getfield 16, 3) := by decide +kernel
theorem dX8_count_65 : decode cX8_count 65 = .ok (.iconst 1, 1) := by decide +kernel
theorem dX8_count_66 : decode cX8_count 66 = .ok (.baload, 1) := by decide +kernel
theorem dX8_count_67 : decode cX8_count 67 = .ok (.invokestatic 181, 3) := by decide +kernel
theorem dX8_count_70 : decode cX8_count 70 = .ok (.iadd, 1) := by decide +kernel
theorem dX8_count_71 : decode cX8_count 71 = .ok (.ireturn, 1) := by decide +kernel
theorem dX8_count_72 : decode cX8_count 72 = .ok (.aload_n 0, 1) := by decide +kernel
theorem dX8_count_73 : decode cX8_count 73 = .ok (.getfield 79, 3) := by decide +kernel
theorem dX8_count_76 : decode cX8_count 76 = .ok (.ireturn, 1) := by decide +kernel
theorem dX8_count_77 : decode cX8_count 77 = .ok (.aload_n 0, 1) := by decide +kernel
theorem dX8_count_78 : decode cX8_count 78 = .ok (.getfield 48, 3) := by decide +kernel
theorem dX8_count_81 : decode cX8_count 81 = .ok (.iconst 0, 1) := by decide +kernel
theorem dX8_count_82 : decode cX8_count 82 = .ok (.iaload, 1) := by decide +kernel
theorem dX8_count_83 : decode cX8_count 83 = .ok (.bipush (-4), 2) := by decide +kernel
theorem dX8_count_85 : decode cX8_count 85 = .ok (.if_icmp .ne 8, 3) := by decide +kernel
theorem dX8_count_88 : decode cX8_count 88 = .ok (.bipush (-4), 2) := by decide +kernel
theorem dX8_count_90 : decode cX8_count 90 = .ok (.goto 9, 3) := by decide +kernel
theorem dX8_count_93 : decode cX8_count 93 = .ok (.aload_n 0, 1) := by decide +kernel
theorem dX8_count_94 : decode cX8_count 94 = .ok (.getfield 51, 3) := by decide +kernel
theorem dX8_count_97 : decode cX8_count 97 = .ok (.iconst 0, 1) := by decide +kernel
theorem dX8_count_98 : decode cX8_count 98 = .ok (.iaload, 1) := by decide +kernel
theorem dX8_count_99 : decode cX8_count 99 = .ok (.ireturn, 1) := by decide +kernel
theorem dX8_count_100 : decode cX8_count 100 = .ok (.aload_n 0, 1) := by decide +kernel
theorem dX8_count_101 : decode cX8_count 101 = .ok (.getfield 7, 3) := by decide +kernel
theorem dX8_count_104 : decode cX8_count 104 = .ok (.iconst 0, 1) := by decide +kernel
theorem dX8_count_105 : decode cX8_count 105 = .ok (.iaload, 1) := by decide +kernel
theorem dX8_count_106 : decode cX8_count 106 = .ok (.aload_n 0, 1) := by decide +kernel
theorem dX8_count_107 : decode cX8_count 107 = .ok (.invokevirtual 174, 3) := by decide +kernel
theorem dX8_count_110 : decode cX8_count 110 = .ok (.isub, 1) := by decide +kernel
theorem dX8_count_111 : decode cX8_count 111 = .ok (.ireturn, 1) := by decide +kernel
theorem dX8_count_112 : decode cX8_count 112 = .ok (.iconst (-1), 1) := by decide +kernel
theorem dX8_count_113 : decode cX8_count 113 = .ok (.ireturn, 1) := by decide +kernel
