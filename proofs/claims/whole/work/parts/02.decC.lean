theorem dX0_init_0 : decode cX0_init 0 = .ok (.aload_n 0, 1) := by decide +kernel
theorem dX0_init_1 : decode cX0_init 1 = .ok (.invokespecial 3, 3) := by decide +kernel
theorem dX0_init_4 : decode cX0_init 4 = .ok (.aload_n 0, 1) := by decide +kernel
theorem dX0_init_5 : decode cX0_init 5 = .ok (.bipush 17, 2) := by decide +kernel
theorem dX0_init_7 : decode cX0_init 7 = .ok (.putfield 9, 3) := by decide +kernel
theorem dX0_init_10 : decode cX0_init 10 = .ok (.aload_n 0, 1) := by decide +kernel
theorem dX0_init_11 : decode cX0_init 11 = .ok (.iconst 0, 1) := by decide +kernel
theorem dX0_init_12 : decode cX0_init 12 = .ok (.putfield 15, 3) := by decide +kernel
theorem dX0_init_15 : decode cX0_init 15 = .ok (.aload_n 0, 1) := by decide +kernel
theorem dX0_init_16 : decode cX0_init 16 = .ok (.iconst 0, 1) := by decide +kernel
theorem dX0_init_17 : decode cX0_init 17 = .ok (.putfield 18, 3) := by decide +kernel
theorem dX0_init_20 : decode cX0_init 20 = .ok (.aload_n 0, 1) := by decide +kernel
theorem dX0_init_21 : decode cX0_init 21 = .ok (.iconst 0, 1) := by decide +kernel
theorem dX0_init_22 : decode cX0_init 22 = .ok (.putfield 21, 3) := by decide +kernel
theorem dX0_init_25 : decode cX0_init 25 = .ok (.aload_n 0, 1) := by decide +kernel
theorem dX0_init_26 : decode cX0_init 26 = .ok (.iconst 5, 1) := by decide +kernel
theorem dX0_init_27 : decode cX0_init 27 = .ok (.newarray .int, 2) := by decide +kernel
theorem dX0_init_29 : decode cX0_init 29 = .ok (.putfield 24, 3) := by decide +kernel
theorem dX0_init_32 : decode cX0_init 32 = .ok (.aload_n 0, 1) := by decide +kernel
theorem dX0_init_33 : decode cX0_init 33 = .ok (.iconst 5, 1) := by decide +kernel
theorem dX0_init_34 : decode cX0_init 34 = .ok (.newarray .int, 2) := by decide +kernel
theorem dX0_init_36 : decode cX0_init 36 = .ok (.putfield 28, 3) := by decide +kernel
theorem dX0_init_39 : decode cX0_init 39 = .ok (.aload_n 0, 1) := by decide +kernel
theorem dX0_init_40 : decode cX0_init 40 = .ok (.bipush 6, 2) := by decide +kernel
theorem dX0_init_42 : decode cX0_init 42 = .ok (.newarray .int, 2) := by decide +kernel
theorem dX0_init_44 : decode cX0_init 44 = .ok (.putfield 31, 3) := by decide +kernel
theorem dX0_init_47 : decode cX0_init 47 = .ok (.aload_n 0, 1) := by decide +kernel
theorem dX0_init_48 : decode cX0_init 48 = .ok (.bipush 6, 2) := by decide +kernel
theorem dX0_init_50 : decode cX0_init 50 = .ok (.newarray .int, 2) := by decide +kernel
theorem dX0_init_52 : decode cX0_init 52 = .ok (.putfield 34, 3) := by decide +kernel
theorem dX0_init_55 : decode cX0_init 55 = .ok (.return_, 1) := by decide +kernel
theorem dX0_clear_0 : decode cX0_clear 0 = .ok (.aload_n 0, 1) := by decide +kernel
theorem dX0_clear_1 : decode cX0_clear 1 = .ok (.bipush 17, 2) := by decide +kernel
theorem dX0_clear_3 : decode cX0_clear 3 = .ok (.putfield 9, 3) := by decide +kernel
theorem dX0_clear_6 : decode cX0_clear 6 = .ok (.aload_n 0, 1) := by decide +kernel
theorem dX0_clear_7 : decode cX0_clear 7 = .ok (.iconst 0, 1) := by decide +kernel
theorem dX0_clear_8 : decode cX0_clear 8 = .ok (.putfield 15, 3) := by decide +kernel
theorem dX0_clear_11 : decode cX0_clear 11 = .ok (.aload_n 0, 1) := by decide +kernel
theorem dX0_clear_12 : decode cX0_clear 12 = .ok (.iconst 0, 1) := by decide +kernel
theorem dX0_clear_13 : decode cX0_clear 13 = .ok (.putfield 18, 3) := by decide +kernel
theorem dX0_clear_16 : decode cX0_clear 16 = .ok (.aload_n 0, 1) := by decide +kernel
theorem dX0_clear_17 : decode cX0_clear 17 = .ok (.iconst 0, 1) := by decide +kernel
theorem dX0_clear_18 : decode cX0_clear 18 = .ok (.putfield 21, 3) := by decide +kernel
theorem dX0_clear_21 : decode cX0_clear 21 = .ok (.return_, 1) := by decide +kernel
theorem dX0_copy_0 : decode cX0_copy 0 = .ok (.aload_n 0, 1) := by decide +kernel
theorem dX0_copy_1 : decode cX0_copy 1 = .ok (.aload_n 1, 1) := by decide +kernel
theorem dX0_copy_2 : decode cX0_copy 2 = .ok (.getfield 9, 3) := by decide +kernel
theorem dX0_copy_5 : decode cX0_copy 5 = .ok (.putfield 9, 3) := by decide +kernel
theorem dX0_copy_8 : decode cX0_copy 8 = .ok (.aload_n 0, 1) := by decide +kernel
theorem dX0_copy_9 : decode cX0_copy 9 = .ok (.aload_n 1, 1) := by decide +kernel
theorem dX0_copy_10 : decode cX0_copy 10 = .ok (.getfield 15, 3) := by decide +kernel
theorem dX0_copy_13 : decode cX0_copy 13 = .ok (.putfield 15, 3) := by decide +kernel
theorem dX0_copy_16 : decode cX0_copy 16 = .ok (.aload_n 0, 1) := by decide +kernel
theorem dX0_copy_17 : decode cX0_copy 17 = .ok (.aload_n 1, 1) := by decide +kernel
theorem dX0_copy_18 : decode cX0_copy 18 = .ok (.getfield 18, 3) := by decide +kernel
theorem dX0_copy_21 : decode cX0_copy 21 = .ok (.putfield 18, 3) := by decide +kernel
theorem dX0_copy_24 : decode cX0_copy 24 = .ok (.aload_n 0, 1) := by decide +kernel
theorem dX0_copy_25 : decode cX0_copy 25 = .ok (.aload_n 1, 1) := by decide +kernel
theorem dX0_copy_26 : decode cX0_copy 26 = .ok (.getfield 21, 3) := by decide +kernel
theorem dX0_copy_29 : decode cX0_copy 29 = .ok (.putfield 21, 3) := by decide +kernel
theorem dX0_copy_32 : decode cX0_copy 32 = .ok (.iconst 0, 1) := by decide +kernel
theorem dX0_copy_33 : decode cX0_copy 33 = .ok (.istore_n 2, 1) := by decide +kernel
theorem dX0_copy_34 : decode cX0_copy 34 = .ok (.iload_n 2, 1) := by decide +kernel
theorem dX0_copy_35 : decode cX0_copy 35 = .ok (.iconst 5, 1) := by decide +kernel
theorem dX0_copy_36 : decode cX0_copy 36 = .ok (.if_icmp .ge 33, 3) := by decide +kernel
theorem dX0_copy_39 : decode cX0_copy 39 = .ok (.aload_n 0, 1) := by decide +kernel
theorem dX0_copy_40 : decode cX0_copy 40 = .ok (.getfield 24, 3) := by decide +kernel
theorem dX0_copy_43 : decode cX0_copy 43 = .ok (.iload_n 2, 1) := by decide +kernel
theorem dX0_copy_44 : decode cX0_copy 44 = .ok (.aload_n 1, 1) := by decide +kernel
theorem dX0_copy_45 : decode cX0_copy 45 = .ok (.getfield 24, 3) := by decide +kernel
theorem dX0_copy_48 : decode cX0_copy 48 = .ok (.iload_n 2, 1) := by decide +kernel
theorem dX0_copy_49 : decode cX0_copy 49 = .ok (.iaload, 1) := by decide +kernel
theorem dX0_copy_50 : decode cX0_copy 50 = .ok (.iastore, 1) := by decide +kernel
theorem dX0_copy_51 : decode cX0_copy 51 = .ok (.aload_n 0, 1) := by decide +kernel
theorem dX0_copy_52 : decode cX0_copy 52 = .ok (.getfield 28, 3) := by decide +kernel
theorem dX0_copy_55 : decode cX0_copy 55 = .ok (.iload_n 2, 1) := by decide +kernel
theorem dX0_copy_56 : decode cX0_copy 56 = .ok (.aload_n 1, 1) := by decide +kernel
theorem dX0_copy_57 : decode cX0_copy 57 = .ok (.getfield 28, 3) := by decide +kernel
theorem dX0_copy_60 : decode cX0_copy 60 = .ok (.iload_n 2, 1) := by decide +kernel
theorem dX0_copy_61 : decode cX0_copy 61 = .ok (.iaload, 1) := by decide +kernel
theorem dX0_copy_62 : decode cX0_copy 62 = .ok (.iastore, 1) := by decide +kernel
theorem dX0_copy_63 : decode cX0_copy 63 = .ok (.iinc 2 1, 3) := by decide +kernel
theorem dX0_copy_66 : decode cX0_copy 66 = .ok (.goto (-32), 3) := by decide +kernel
theorem dX0_copy_69 : decode cX0_copy 69 = .ok (.iconst 0, 1) := by decide +kernel
theorem dX0_copy_70 : decode cX0_copy 70 = .ok (.istore_n 2, 1) := by decide +kernel
theorem dX0_copy_71 : decode cX0_copy 71 = .ok (.iload_n 2, 1) := by decide +kernel
theorem dX0_copy_72 : decode cX0_copy 72 = .ok (.bipush 6, 2) := by decide +kernel
theorem dX0_copy_74 : decode cX0_copy 74 = .ok (.if_icmp .ge 33, 3) := by decide +kernel
theorem dX0_copy_77 : decode cX0_copy 77 = .ok (.aload_n 0, 1) := by decide +kernel
theorem dX0_copy_78 : decode cX0_copy 78 = .ok (.getfield 31, 3) := by decide +kernel
theorem dX0_copy_81 : decode cX0_copy 81 = .ok (.iload_n 2, 1) := by decide +kernel
theorem dX0_copy_82 : decode cX0_copy 82 = .ok (.aload_n 1, 1) := by decide +kernel
theorem dX0_copy_83 : decode cX0_copy 83 = .ok (.getfield 31, 3) := by decide +kernel
theorem dX0_copy_86 : decode cX0_copy 86 = .ok (.iload_n 2, 1) := by decide +kernel
theorem dX0_copy_87 : decode cX0_copy 87 = .ok (.iaload, 1) := by decide +kernel
theorem dX0_copy_88 : decode cX0_copy 88 = .ok (.iastore, 1) := by decide +kernel
theorem dX0_copy_89 : decode cX0_copy 89 = .ok (.aload_n 0, 1) := by decide +kernel
theorem dX0_copy_90 : decode cX0_copy 90 = .ok (.getfield 34, 3) := by decide +kernel
theorem dX0_copy_93 : decode cX0_copy 93 = .ok (.iload_n 2, 1) := by decide +kernel
theorem dX0_copy_94 : decode cX0_copy 94 = .ok (.aload_n 1, 1) := by decide +kernel
theorem dX0_copy_95 : decode cX0_copy 95 = .ok (.getfield 34, 3) := by decide +kernel
theorem dX0_copy_98 : decode cX0_copy 98 = .ok (.iload_n 2, 1) := by decide +kernel
theorem dX0_copy_99 : decode cX0_copy 99 = .ok (.iaload, 1) := by decide +kernel
theorem dX0_copy_100 : decode cX0_copy 100 = .ok (.iastore, 1) := by decide +kernel
theorem dX0_copy_101 : decode cX0_copy 101 = .ok (.iinc 2 1, 3) := by decide +kernel
theorem dX0_copy_104 : decode cX0_copy 104 = .ok (.goto (-33), 3) := by decide +kernel
theorem dX0_copy_107 : decode cX0_copy 107 = .ok (.return_, 1) := by decide +kernel
theorem dX0_has_0 : decode cX0_has 0 = .ok (.iload_n 1, 1) := by decide +kernel
theorem dX0_has_1 : decode cX0_has 1 = .ok (.ifCond .lt 15, 3) := by decide +kernel
theorem dX0_has_4 : decode cX0_has 4 = .ok (.iload_n 1, 1) := by decide +kernel
theorem dX0_has_5 : decode cX0_has 5 = .ok (.aload_n 0, 1) := by decide +kernel
theorem dX0_has_6 : decode cX0_has 6 = .ok (.getfield 18, 3) := by decide +kernel
theorem dX0_has_9 : decode cX0_has 9 = .ok (.if_icmp .ge 7, 3) := by decide +kernel
theorem dX0_has_12 : decode cX0_has 12 = .ok (.iconst 1, 1) := by decide +kernel
theorem dX0_has_13 : decode cX0_has 13 = .ok (.goto 4, 3) := by decide +kernel
theorem dX0_has_16 : decode cX0_has 16 = .ok (.iconst 0, 1) := by decide +kernel
theorem dX0_has_17 : decode cX0_has 17 = .ok (.ireturn, 1) := by decide +kernel
theorem dX0_add_0 : decode cX0_add 0 = .ok (.iload_n 1, 1) := by decide +kernel
theorem dX0_add_1 : decode cX0_add 1 = .ok (.iconst 1, 1) := by decide +kernel
theorem dX0_add_2 : decode cX0_add 2 = .ok (.bipush 9, 2) := by decide +kernel
theorem dX0_add_4 : decode cX0_add 4 = .ok (.invokestatic 37, 3) := by decide +kernel
theorem dX0_add_7 : decode cX0_add 7 = .ok (.ifCond .eq 13, 3) := by decide +kernel
theorem dX0_add_10 : decode cX0_add 10 = .ok (.iload_n 2, 1) := by decide +kernel
theorem dX0_add_11 : decode cX0_add 11 = .ok (.iconst 1, 1) := by decide +kernel
theorem dX0_add_12 : decode cX0_add 12 = .ok (.bipush 99, 2) := by decide +kernel
theorem dX0_add_14 : decode cX0_add 14 = .ok (.invokestatic 37, 3) := by decide +kernel
theorem dX0_add_17 : decode cX0_add 17 = .ok (.ifCond .ne 5, 3) := by decide +kernel
theorem dX0_add_20 : decode cX0_add 20 = .ok (.iconst (-1), 1) := by decide +kernel
theorem dX0_add_21 : decode cX0_add 21 = .ok (.ireturn, 1) := by decide +kernel
theorem dX0_add_22 : decode cX0_add 22 = .ok (.aload_n 0, 1) := by decide +kernel
theorem dX0_add_23 : decode cX0_add 23 = .ok (.getfield 18, 3) := by decide +kernel
theorem dX0_add_26 : decode cX0_add 26 = .ok (.iconst 5, 1) := by decide +kernel
theorem dX0_add_27 : decode cX0_add 27 = .ok (.if_icmp .lt 6, 3) := by decide +kernel
theorem dX0_add_30 : decode cX0_add 30 = .ok (.bipush (-3), 2) := by decide +kernel
theorem dX0_add_32 : decode cX0_add 32 = .ok (.ireturn, 1) := by decide +kernel
theorem dX0_add_33 : decode cX0_add 33 = .ok (.aload_n 0, 1) := by decide +kernel
theorem dX0_add_34 : decode cX0_add 34 = .ok (.getfield 24, 3) := by decide +kernel
theorem dX0_add_37 : decode cX0_add 37 = .ok (.aload_n 0, 1) := by decide +kernel
theorem dX0_add_38 : decode cX0_add 38 = .ok (.getfield 18, 3) := by decide +kernel
theorem dX0_add_41 : decode cX0_add 41 = .ok (.iload_n 1, 1) := by decide +kernel
theorem dX0_add_42 : decode cX0_add 42 = .ok (.iastore, 1) := by decide +kernel
theorem dX0_add_43 : decode cX0_add 43 = .ok (.aload_n 0, 1) := by decide +kernel
theorem dX0_add_44 : decode cX0_add 44 = .ok (.getfield 28, 3) := by decide +kernel
theorem dX0_add_47 : decode cX0_add 47 = .ok (.aload_n 0, 1) := by decide +kernel
theorem dX0_add_48 : decode cX0_add 48 = .ok (.getfield 18, 3) := by decide +kernel
theorem dX0_add_51 : decode cX0_add 51 = .ok (.iload_n 2, 1) := by decide +kernel
theorem dX0_add_52 : decode cX0_add 52 = .ok (.iastore, 1) := by decide +kernel
theorem dX0_add_53 : decode cX0_add 53 = .ok (.aload_n 0, 1) := by decide +kernel
theorem dX0_add_54 : decode cX0_add 54 = .ok (.dup, 1) := by decide +kernel
theorem dX0_add_55 : decode cX0_add 55 = .ok (.getfield 18, 3) := by decide +kernel
theorem dX0_add_58 : decode cX0_add 58 = .ok (.iconst 1, 1) := by decide +kernel
theorem dX0_add_59 : decode cX0_add 59 = .ok (.iadd, 1) := by decide +kernel
theorem dX0_add_60 : decode cX0_add 60 = .ok (.putfield 18, 3) := by decide +kernel
theorem dX0_add_63 : decode cX0_add 63 = .ok (.aload_n 0, 1) := by decide +kernel
theorem dX0_add_64 : decode cX0_add 64 = .ok (.getfield 18, 3) := by decide +kernel
theorem dX0_add_67 : decode cX0_add 67 = .ok (.ireturn, 1) := by decide +kernel
theorem dX0_remove_0 : decode cX0_remove 0 = .ok (.aload_n 0, 1) := by decide +kernel
theorem dX0_remove_1 : decode cX0_remove 1 = .ok (.iload_n 1, 1) := by decide +kernel
theorem dX0_remove_2 : decode cX0_remove 2 = .ok (.invokevirtual 41, 3) := by decide +kernel
theorem dX0_remove_5 : decode cX0_remove 5 = .ok (.ifCond .ne 4, 3) := by decide +kernel
theorem dX0_remove_8 : decode cX0_remove 8 = .ok (.return_, 1) := by decide +kernel
theorem dX0_remove_9 : decode cX0_remove 9 = .ok (.iload_n 1, 1) := by decide +kernel
theorem dX0_remove_10 : decode cX0_remove 10 = .ok (.istore_n 2, 1) := by decide +kernel
theorem dX0_remove_11 : decode cX0_remove 11 = .ok (.iload_n 2, 1) := by decide +kernel
theorem dX0_remove_12 : decode cX0_remove 12 = .ok (.aload_n 0, 1) := by decide +kernel
theorem dX0_remove_13 : decode cX0_remove 13 = .ok (.getfield 18, 3) := by decide +kernel
theorem dX0_remove_16 : decode cX0_remove 16 = .ok (.iconst 1, 1) := by decide +kernel
theorem dX0_remove_17 : decode cX0_remove 17 = .ok (.isub, 1) := by decide +kernel
theorem dX0_remove_18 : decode cX0_remove 18 = .ok (.if_icmp .ge 37, 3) := by decide +kernel
theorem dX0_remove_21 : decode cX0_remove 21 = .ok (.aload_n 0, 1) := by decide +kernel
theorem dX0_remove_22 : decode cX0_remove 22 = .ok (.getfield 24, 3) := by decide +kernel
theorem dX0_remove_25 : decode cX0_remove 25 = .ok (.iload_n 2, 1) := by decide +kernel
theorem dX0_remove_26 : decode cX0_remove 26 = .ok (.aload_n 0, 1) := by decide +kernel
theorem dX0_remove_27 : decode cX0_remove 27 = .ok (.getfield 24, 3) := by decide +kernel
theorem dX0_remove_30 : decode cX0_remove 30 = .ok (.iload_n 2, 1) := by decide +kernel
theorem dX0_remove_31 : decode cX0_remove 31 = .ok (.iconst 1, 1) := by decide +kernel
theorem dX0_remove_32 : decode cX0_remove 32 = .ok (.iadd, 1) := by decide +kernel
theorem dX0_remove_33 : decode cX0_remove 33 = .ok (.iaload, 1) := by decide +kernel
theorem dX0_remove_34 : decode cX0_remove 34 = .ok (.iastore, 1) := by decide +kernel
theorem dX0_remove_35 : decode cX0_remove 35 = .ok (.aload_n 0, 1) := by decide +kernel
theorem dX0_remove_36 : decode cX0_remove 36 = .ok (.getfield 28, 3) := by decide +kernel
theorem dX0_remove_39 : decode cX0_remove 39 = .ok (.iload_n 2, 1) := by decide +kernel
theorem dX0_remove_40 : decode cX0_remove 40 = .ok (.aload_n 0, 1) := by decide +kernel
theorem dX0_remove_41 : decode cX0_remove 41 = .ok (.getfield 28, 3) := by decide +kernel
theorem dX0_remove_44 : decode cX0_remove 44 = .ok (.iload_n 2, 1) := by decide +kernel
theorem dX0_remove_45 : decode cX0_remove 45 = .ok (.iconst 1, 1) := by decide +kernel
theorem dX0_remove_46 : decode cX0_remove 46 = .ok (.iadd, 1) := by decide +kernel
theorem dX0_remove_47 : decode cX0_remove 47 = .ok (.iaload, 1) := by decide +kernel
theorem dX0_remove_48 : decode cX0_remove 48 = .ok (.iastore, 1) := by decide +kernel
theorem dX0_remove_49 : decode cX0_remove 49 = .ok (.iinc 2 1, 3) := by decide +kernel
theorem dX0_remove_52 : decode cX0_remove 52 = .ok (.goto (-41), 3) := by decide +kernel
theorem dX0_remove_55 : decode cX0_remove 55 = .ok (.aload_n 0, 1) := by decide +kernel
theorem dX0_remove_56 : decode cX0_remove 56 = .ok (.dup, 1) := by decide +kernel
theorem dX0_remove_57 : decode cX0_remove 57 = .ok (.getfield 18, 3) := by decide +kernel
theorem dX0_remove_60 : decode cX0_remove 60 = .ok (.iconst 1, 1) := by decide +kernel
theorem dX0_remove_61 : decode cX0_remove 61 = .ok (.isub, 1) := by decide +kernel
theorem dX0_remove_62 : decode cX0_remove 62 = .ok (.putfield 18, 3) := by decide +kernel
theorem dX0_remove_65 : decode cX0_remove 65 = .ok (.return_, 1) := by decide +kernel
theorem dX0_addSeen_0 : decode cX0_addSeen 0 = .ok (.aload_n 0, 1) := by decide +kernel
theorem dX0_addSeen_1 : decode cX0_addSeen 1 = .ok (.getfield 21, 3) := by decide +kernel
theorem dX0_addSeen_4 : decode cX0_addSeen 4 = .ok (.bipush 6, 2) := by decide +kernel
theorem dX0_addSeen_6 : decode cX0_addSeen 6 = .ok (.if_icmp .lt 6, 3) := by decide +kernel
theorem dX0_addSeen_9 : decode cX0_addSeen 9 = .ok (.bipush (-3), 2) := by decide +kernel
theorem dX0_addSeen_11 : decode cX0_addSeen 11 = .ok (.ireturn, 1) := by decide +kernel
theorem dX0_addSeen_12 : decode cX0_addSeen 12 = .ok (.aload_n 0, 1) := by decide +kernel
theorem dX0_addSeen_13 : decode cX0_addSeen 13 = .ok (.getfield 31, 3) := by decide +kernel
theorem dX0_addSeen_16 : decode cX0_addSeen 16 = .ok (.aload_n 0, 1) := by decide +kernel
theorem dX0_addSeen_17 : decode cX0_addSeen 17 = .ok (.getfield 21, 3) := by decide +kernel
theorem dX0_addSeen_20 : decode cX0_addSeen 20 = .ok (.iload_n 1, 1) := by decide +kernel
theorem dX0_addSeen_21 : decode cX0_addSeen 21 = .ok (.iastore, 1) := by decide +kernel
theorem dX0_addSeen_22 : decode cX0_addSeen 22 = .ok (.aload_n 0, 1) := by decide +kernel
theorem dX0_addSeen_23 : decode cX0_addSeen 23 = .ok (.getfield 34, 3) := by decide +kernel
theorem dX0_addSeen_26 : decode cX0_addSeen 26 = .ok (.aload_n 0, 1) := by decide +kernel
theorem dX0_addSeen_27 : decode cX0_addSeen 27 = .ok (.getfield 21, 3) := by decide +kernel
theorem dX0_addSeen_30 : decode cX0_addSeen 30 = .ok (.iload_n 2, 1) := by decide +kernel
theorem dX0_addSeen_31 : decode cX0_addSeen 31 = .ok (.iastore, 1) := by decide +kernel
theorem dX0_addSeen_32 : decode cX0_addSeen 32 = .ok (.aload_n 0, 1) := by decide +kernel
theorem dX0_addSeen_33 : decode cX0_addSeen 33 = .ok (.dup, 1) := by decide +kernel
theorem dX0_addSeen_34 : decode cX0_addSeen 34 = .ok (.getfield 21, 3) := by decide +kernel
theorem dX0_addSeen_37 : decode cX0_addSeen 37 = .ok (.iconst 1, 1) := by decide +kernel
theorem dX0_addSeen_38 : decode cX0_addSeen 38 = .ok (.iadd, 1) := by decide +kernel
theorem dX0_addSeen_39 : decode cX0_addSeen 39 = .ok (.putfield 21, 3) := by decide +kernel
theorem dX0_addSeen_42 : decode cX0_addSeen 42 = .ok (.aload_n 0, 1) := by decide +kernel
theorem dX0_addSeen_43 : decode cX0_addSeen 43 = .ok (.getfield 21, 3) := by decide +kernel
theorem dX0_addSeen_46 : decode cX0_addSeen 46 = .ok (.ireturn, 1) := by decide +kernel
theorem dX1_init_0 : decode cX1_init 0 = .ok (.aload_n 0, 1) := by decide +kernel
theorem dX1_init_1 : decode cX1_init 1 = .ok (.invokespecial 3, 3) := by decide +kernel
theorem dX1_init_4 : decode cX1_init 4 = .ok (.aload_n 0, 1) := by decide +kernel
theorem dX1_init_5 : decode cX1_init 5 = .ok (.iconst 0, 1) := by decide +kernel
theorem dX1_init_6 : decode cX1_init 6 = .ok (.putfield 9, 3) := by decide +kernel
theorem dX1_init_9 : decode cX1_init 9 = .ok (.aload_n 0, 1) := by decide +kernel
theorem dX1_init_10 : decode cX1_init 10 = .ok (.bipush (-4), 2) := by decide +kernel
theorem dX1_init_12 : decode cX1_init 12 = .ok (.putfield 15, 3) := by decide +kernel
theorem dX1_init_15 : decode cX1_init 15 = .ok (.aload_n 0, 1) := by decide +kernel
theorem dX1_init_16 : decode cX1_init 16 = .ok (.bipush (-4), 2) := by decide +kernel
theorem dX1_init_18 : decode cX1_init 18 = .ok (.putfield 18, 3) := by decide +kernel
theorem dX1_init_21 : decode cX1_init 21 = .ok (.return_, 1) := by decide +kernel
theorem dX1_clear_0 : decode cX1_clear 0 = .ok (.aload_n 0, 1) := by decide +kernel
theorem dX1_clear_1 : decode cX1_clear 1 = .ok (.iconst 0, 1) := by decide +kernel
theorem dX1_clear_2 : decode cX1_clear 2 = .ok (.putfield 9, 3) := by decide +kernel
theorem dX1_clear_5 : decode cX1_clear 5 = .ok (.aload_n 0, 1) := by decide +kernel
theorem dX1_clear_6 : decode cX1_clear 6 = .ok (.bipush (-4), 2) := by decide +kernel
theorem dX1_clear_8 : decode cX1_clear 8 = .ok (.putfield 15, 3) := by decide +kernel
theorem dX1_clear_11 : decode cX1_clear 11 = .ok (.aload_n 0, 1) := by decide +kernel
theorem dX1_clear_12 : decode cX1_clear 12 = .ok (.bipush (-4), 2) := by decide +kernel
theorem dX1_clear_14 : decode cX1_clear 14 = .ok (.putfield 18, 3) := by decide +kernel
theorem dX1_clear_17 : decode cX1_clear 17 = .ok (.return_, 1) := by decide +kernel
theorem dX1_note_0 : decode cX1_note 0 = .ok (.aload_n 0, 1) := by decide +kernel
theorem dX1_note_1 : decode cX1_note 1 = .ok (.getfield 9, 3) := by decide +kernel
theorem dX1_note_4 : decode cX1_note 4 = .ok (.ifCond .ne 8, 3) := by decide +kernel
theorem dX1_note_7 : decode cX1_note 7 = .ok (.aload_n 0, 1) := by decide +kernel
theorem dX1_note_8 : decode cX1_note 8 = .ok (.iload_n 1, 1) := by decide +kernel
theorem dX1_note_9 : decode cX1_note 9 = .ok (.putfield 15, 3) := by decide +kernel
theorem dX1_note_12 : decode cX1_note 12 = .ok (.aload_n 0, 1) := by decide +kernel
theorem dX1_note_13 : decode cX1_note 13 = .ok (.iload_n 1, 1) := by decide +kernel
theorem dX1_note_14 : decode cX1_note 14 = .ok (.putfield 18, 3) := by decide +kernel
theorem dX1_note_17 : decode cX1_note 17 = .ok (.aload_n 0, 1) := by decide +kernel
theorem dX1_note_18 : decode cX1_note 18 = .ok (.dup, 1) := by decide +kernel
theorem dX1_note_19 : decode cX1_note 19 = .ok (.getfield 9, 3) := by decide +kernel
theorem dX1_note_22 : decode cX1_note 22 = .ok (.iconst 1, 1) := by decide +kernel
theorem dX1_note_23 : decode cX1_note 23 = .ok (.iadd, 1) := by decide +kernel
theorem dX1_note_24 : decode cX1_note 24 = .ok (.putfield 9, 3) := by decide +kernel
theorem dX1_note_27 : decode cX1_note 27 = .ok (.return_, 1) := by decide +kernel
theorem dX1_answer_0 : decode cX1_answer 0 = .ok (.iload_n 1, 1) := by decide +kernel
theorem dX1_answer_1 : decode cX1_answer 1 = .ok (.ifCond .ne 8, 3) := by decide +kernel
theorem dX1_answer_4 : decode cX1_answer 4 = .ok (.aload_n 0, 1) := by decide +kernel
theorem dX1_answer_5 : decode cX1_answer 5 = .ok (.getfield 9, 3) := by decide +kernel
theorem dX1_answer_8 : decode cX1_answer 8 = .ok (.ireturn, 1) := by decide +kernel
theorem dX1_answer_9 : decode cX1_answer 9 = .ok (.iload_n 1, 1) := by decide +kernel
theorem dX1_answer_10 : decode cX1_answer 10 = .ok (.iconst 1, 1) := by decide +kernel
theorem dX1_answer_11 : decode cX1_answer 11 = .ok (.if_icmp .ne 10, 3) := by decide +kernel
theorem dX1_answer_14 : decode cX1_answer 14 = .ok (.aload_n 0, 1) := by decide +kernel
theorem dX1_answer_15 : decode cX1_answer 15 = .ok (.getfield 15, 3) := by decide +kernel
theorem dX1_answer_18 : decode cX1_answer 18 = .ok (.goto 7, 3) := by decide +kernel
theorem dX1_answer_21 : decode cX1_answer 21 = .ok (.aload_n 0, 1) := by decide +kernel
theorem dX1_answer_22 : decode cX1_answer 22 = .ok (.getfield 18, 3) := by decide +kernel
theorem dX1_answer_25 : decode cX1_answer 25 = .ok (.ireturn, 1) := by decide +kernel
theorem dX2_init_0 : decode cX2_init 0 = .ok (.aload_n 0, 1) := by decide +kernel
theorem dX2_init_1 : decode cX2_init 1 = .ok (.invokespecial 3, 3) := by decide +kernel
theorem dX2_init_4 : decode cX2_init 4 = .ok (.aload_n 0, 1) := by decide +kernel
theorem dX2_init_5 : decode cX2_init 5 = .ok (.lconst 1, 1) := by decide +kernel
theorem dX2_init_6 : decode cX2_init 6 = .ok (.putfield 9, 3) := by decide +kernel
theorem dX2_init_9 : decode cX2_init 9 = .ok (.aload_n 0, 1) := by decide +kernel
theorem dX2_init_10 : decode cX2_init 10 = .ok (.lconst 0, 1) := by decide +kernel
theorem dX2_init_11 : decode cX2_init 11 = .ok (.putfield 15, 3) := by decide +kernel
theorem dX2_init_14 : decode cX2_init 14 = .ok (.aload_n 0, 1) := by decide +kernel
theorem dX2_init_15 : decode cX2_init 15 = .ok (.iconst 5, 1) := by decide +kernel
theorem dX2_init_16 : decode cX2_init 16 = .ok (.newarray .long, 2) := by decide +kernel
theorem dX2_init_18 : decode cX2_init 18 = .ok (.putfield 18, 3) := by decide +kernel
theorem dX2_init_21 : decode cX2_init 21 = .ok (.aload_n 0, 1) := by decide +kernel
theorem dX2_init_22 : decode cX2_init 22 = .ok (.iconst 5, 1) := by decide +kernel
theorem dX2_init_23 : decode cX2_init 23 = .ok (.newarray .long, 2) := by decide +kernel
theorem dX2_init_25 : decode cX2_init 25 = .ok (.putfield 22, 3) := by decide +kernel
theorem dX2_init_28 : decode cX2_init 28 = .ok (.aload_n 0, 1) := by decide +kernel
theorem dX2_init_29 : decode cX2_init 29 = .ok (.iconst 5, 1) := by decide +kernel
theorem dX2_init_30 : decode cX2_init 30 = .ok (.newarray .int, 2) := by decide +kernel
theorem dX2_init_32 : decode cX2_init 32 = .ok (.putfield 25, 3) := by decide +kernel
theorem dX2_init_35 : decode cX2_init 35 = .ok (.aload_n 0, 1) := by decide +kernel
theorem dX2_init_36 : decode cX2_init 36 = .ok (.iconst 5, 1) := by decide +kernel
theorem dX2_init_37 : decode cX2_init 37 = .ok (.newarray .int, 2) := by decide +kernel
theorem dX2_init_39 : decode cX2_init 39 = .ok (.putfield 29, 3) := by decide +kernel
theorem dX2_init_42 : decode cX2_init 42 = .ok (.aload_n 0, 1) := by decide +kernel
theorem dX2_init_43 : decode cX2_init 43 = .ok (.iconst 0, 1) := by decide +kernel
theorem dX2_init_44 : decode cX2_init 44 = .ok (.putfield 32, 3) := by decide +kernel
theorem dX2_init_47 : decode cX2_init 47 = .ok (.aload_n 0, 1) := by decide +kernel
theorem dX2_init_48 : decode cX2_init 48 = .ok (.iconst 0, 1) := by decide +kernel
theorem dX2_init_49 : decode cX2_init 49 = .ok (.putfield 36, 3) := by decide +kernel
theorem dX2_init_52 : decode cX2_init 52 = .ok (.aload_n 0, 1) := by decide +kernel
theorem dX2_init_53 : decode cX2_init 53 = .ok (.iconst 0, 1) := by decide +kernel
theorem dX2_init_54 : decode cX2_init 54 = .ok (.putfield 39, 3) := by decide +kernel
theorem dX2_init_57 : decode cX2_init 57 = .ok (.return_, 1) := by decide +kernel
theorem dX2_load_0 : decode cX2_load 0 = .ok (.aload_n 0, 1) := by decide +kernel
theorem dX2_load_1 : decode cX2_load 1 = .ok (.aload_n 1, 1) := by decide +kernel
theorem dX2_load_2 : decode cX2_load 2 = .ok (.getfield 42, 3) := by decide +kernel
theorem dX2_load_5 : decode cX2_load 5 = .ok (.putfield 32, 3) := by decide +kernel
theorem dX2_load_8 : decode cX2_load 8 = .ok (.aload_n 0, 1) := by decide +kernel
theorem dX2_load_9 : decode cX2_load 9 = .ok (.lconst 1, 1) := by decide +kernel
theorem dX2_load_10 : decode cX2_load 10 = .ok (.putfield 9, 3) := by decide +kernel
theorem dX2_load_13 : decode cX2_load 13 = .ok (.aload_n 0, 1) := by decide +kernel
theorem dX2_load_14 : decode cX2_load 14 = .ok (.lconst 0, 1) := by decide +kernel
theorem dX2_load_15 : decode cX2_load 15 = .ok (.putfield 15, 3) := by decide +kernel
theorem dX2_load_18 : decode cX2_load 18 = .ok (.iconst 0, 1) := by decide +kernel
theorem dX2_load_19 : decode cX2_load 19 = .ok (.istore_n 2, 1) := by decide +kernel
theorem dX2_load_20 : decode cX2_load 20 = .ok (.iload_n 2, 1) := by decide +kernel
theorem dX2_load_21 : decode cX2_load 21 = .ok (.aload_n 0, 1) := by decide +kernel
theorem dX2_load_22 : decode cX2_load 22 = .ok (.getfield 32, 3) := by decide +kernel
theorem dX2_load_25 : decode cX2_load 25 = .ok (.if_icmp .ge 25, 3) := by decide +kernel
theorem dX2_load_28 : decode cX2_load 28 = .ok (.aload_n 0, 1) := by decide +kernel
theorem dX2_load_29 : decode cX2_load 29 = .ok (.dup, 1) := by decide +kernel
theorem dX2_load_30 : decode cX2_load 30 = .ok (.getfield 9, 3) := by decide +kernel
theorem dX2_load_33 : decode cX2_load 33 = .ok (.aload_n 1, 1) := by decide +kernel
theorem dX2_load_34 : decode cX2_load 34 = .ok (.getfield 45, 3) := by decide +kernel
theorem dX2_load_37 : decode cX2_load 37 = .ok (.iload_n 2, 1) := by decide +kernel
theorem dX2_load_38 : decode cX2_load 38 = .ok (.iaload, 1) := by decide +kernel
theorem dX2_load_39 : decode cX2_load 39 = .ok (.i2l, 1) := by decide +kernel
theorem dX2_load_40 : decode cX2_load 40 = .ok (.lmul, 1) := by decide +kernel
theorem dX2_load_41 : decode cX2_load 41 = .ok (.putfield 9, 3) := by decide +kernel
theorem dX2_load_44 : decode cX2_load 44 = .ok (.iinc 2 1, 3) := by decide +kernel
theorem dX2_load_47 : decode cX2_load 47 = .ok (.goto (-27), 3) := by decide +kernel
theorem dX2_load_50 : decode cX2_load 50 = .ok (.iconst 0, 1) := by decide +kernel
theorem dX2_load_51 : decode cX2_load 51 = .ok (.istore_n 2, 1) := by decide +kernel
theorem dX2_load_52 : decode cX2_load 52 = .ok (.iload_n 2, 1) := by decide +kernel
theorem dX2_load_53 : decode cX2_load 53 = .ok (.aload_n 0, 1) := by decide +kernel
theorem dX2_load_54 : decode cX2_load 54 = .ok (.getfield 32, 3) := by decide +kernel
theorem dX2_load_57 : decode cX2_load 57 = .ok (.if_icmp .ge 52, 3) := by decide +kernel
theorem dX2_load_60 : decode cX2_load 60 = .ok (.aload_n 0, 1) := by decide +kernel
theorem dX2_load_61 : decode cX2_load 61 = .ok (.getfield 18, 3) := by decide +kernel
theorem dX2_load_64 : decode cX2_load 64 = .ok (.iload_n 2, 1) := by decide +kernel
theorem dX2_load_65 : decode cX2_load 65 = .ok (.aload_n 0, 1) := by decide +kernel
theorem dX2_load_66 : decode cX2_load 66 = .ok (.getfield 9, 3) := by decide +kernel
theorem dX2_load_69 : decode cX2_load 69 = .ok (.aload_n 1, 1) := by decide +kernel
theorem dX2_load_70 : decode cX2_load 70 = .ok (.getfield 45, 3) := by decide +kernel
theorem dX2_load_73 : decode cX2_load 73 = .ok (.iload_n 2, 1) := by decide +kernel
theorem dX2_load_74 : decode cX2_load 74 = .ok (.iaload, 1) := by decide +kernel
theorem dX2_load_75 : decode cX2_load 75 = .ok (.i2l, 1) := by decide +kernel
theorem dX2_load_76 : decode cX2_load 76 = .ok (.invokestatic 48, 3) := by decide +kernel
theorem dX2_load_79 : decode cX2_load 79 = .ok (.aload_n 1, 1) := by decide +kernel
theorem dX2_load_80 : decode cX2_load 80 = .ok (.getfield 52, 3) := by decide +kernel
theorem dX2_load_83 : decode cX2_load 83 = .ok (.iload_n 2, 1) := by decide +kernel
theorem dX2_load_84 : decode cX2_load 84 = .ok (.iaload, 1) := by decide +kernel
theorem dX2_load_85 : decode cX2_load 85 = .ok (.i2l, 1) := by decide +kernel
theorem dX2_load_86 : decode cX2_load 86 = .ok (.lmul, 1) := by decide +kernel
theorem dX2_load_87 : decode cX2_load 87 = .ok (.lastore, 1) := by decide +kernel
theorem dX2_load_88 : decode cX2_load 88 = .ok (.aload_n 0, 1) := by decide +kernel
theorem dX2_load_89 : decode cX2_load 89 = .ok (.dup, 1) := by decide +kernel
theorem dX2_load_90 : decode cX2_load 90 = .ok (.getfield 15, 3) := by decide +kernel
theorem dX2_load_93 : decode cX2_load 93 = .ok (.aload_n 0, 1) := by decide +kernel
theorem dX2_load_94 : decode cX2_load 94 = .ok (.getfield 18, 3) := by decide +kernel
theorem dX2_load_97 : decode cX2_load 97 = .ok (.iload_n 2, 1) := by decide +kernel
theorem dX2_load_98 : decode cX2_load 98 = .ok (.laload, 1) := by decide +kernel
theorem dX2_load_99 : decode cX2_load 99 = .ok (.ladd, 1) := by decide +kernel
theorem dX2_load_100 : decode cX2_load 100 = .ok (.putfield 15, 3) := by decide +kernel
theorem dX2_load_103 : decode cX2_load 103 = .ok (.iinc 2 1, 3) := by decide +kernel
theorem dX2_load_106 : decode cX2_load 106 = .ok (.goto (-54), 3) := by decide +kernel
theorem dX2_load_109 : decode cX2_load 109 = .ok (.return_, 1) := by decide +kernel
theorem dX2_part_0 : decode cX2_part 0 = .ok (.aload_n 0, 1) := by decide +kernel
theorem dX2_part_1 : decode cX2_part 1 = .ok (.iload_n 1, 1) := by decide +kernel
theorem dX2_part_2 : decode cX2_part 2 = .ok (.putfield 36, 3) := by decide +kernel
theorem dX2_part_5 : decode cX2_part 5 = .ok (.aload_n 0, 1) := by decide +kernel
theorem dX2_part_6 : decode cX2_part 6 = .ok (.iload_n 2, 1) := by decide +kernel
theorem dX2_part_7 : decode cX2_part 7 = .ok (.putfield 39, 3) := by decide +kernel
theorem dX2_part_10 : decode cX2_part 10 = .ok (.aload_n 0, 1) := by decide +kernel
theorem dX2_part_11 : decode cX2_part 11 = .ok (.getfield 36, 3) := by decide +kernel
theorem dX2_part_14 : decode cX2_part 14 = .ok (.ifCond .ne 10, 3) := by decide +kernel
theorem dX2_part_17 : decode cX2_part 17 = .ok (.aload_n 0, 1) := by decide +kernel
theorem dX2_part_18 : decode cX2_part 18 = .ok (.invokevirtual 55, 3) := by decide +kernel
theorem dX2_part_21 : decode cX2_part 21 = .ok (.goto 22, 3) := by decide +kernel
theorem dX2_part_24 : decode cX2_part 24 = .ok (.aload_n 0, 1) := by decide +kernel
theorem dX2_part_25 : decode cX2_part 25 = .ok (.getfield 36, 3) := by decide +kernel
theorem dX2_part_28 : decode cX2_part 28 = .ok (.iconst 1, 1) := by decide +kernel
theorem dX2_part_29 : decode cX2_part 29 = .ok (.if_icmp .ne 10, 3) := by decide +kernel
theorem dX2_part_32 : decode cX2_part 32 = .ok (.aload_n 0, 1) := by decide +kernel
theorem dX2_part_33 : decode cX2_part 33 = .ok (.invokevirtual 58, 3) := by decide +kernel
theorem dX2_part_36 : decode cX2_part 36 = .ok (.goto 7, 3) := by decide +kernel
theorem dX2_part_39 : decode cX2_part 39 = .ok (.aload_n 0, 1) := by decide +kernel
theorem dX2_part_40 : decode cX2_part 40 = .ok (.invokevirtual 61, 3) := by decide +kernel
theorem dX2_part_43 : decode cX2_part 43 = .ok (.return_, 1) := by decide +kernel
theorem dX2_grow_0 : decode cX2_grow 0 = .ok (.iconst 0, 1) := by decide +kernel
theorem dX2_grow_1 : decode cX2_grow 1 = .ok (.istore_n 1, 1) := by decide +kernel
theorem dX2_grow_2 : decode cX2_grow 2 = .ok (.iload_n 1, 1) := by decide +kernel
theorem dX2_grow_3 : decode cX2_grow 3 = .ok (.aload_n 0, 1) := by decide +kernel
theorem dX2_grow_4 : decode cX2_grow 4 = .ok (.getfield 32, 3) := by decide +kernel
theorem dX2_grow_7 : decode cX2_grow 7 = .ok (.if_icmp .ge 21, 3) := by decide +kernel
theorem dX2_grow_10 : decode cX2_grow 10 = .ok (.aload_n 0, 1) := by decide +kernel
theorem dX2_grow_11 : decode cX2_grow 11 = .ok (.getfield 29, 3) := by decide +kernel
theorem dX2_grow_14 : decode cX2_grow 14 = .ok (.iload_n 1, 1) := by decide +kernel
theorem dX2_grow_15 : decode cX2_grow 15 = .ok (.aload_n 0, 1) := by decide +kernel
theorem dX2_grow_16 : decode cX2_grow 16 = .ok (.getfield 25, 3) := by decide +kernel
theorem dX2_grow_19 : decode cX2_grow 19 = .ok (.iload_n 1, 1) := by decide +kernel
theorem dX2_grow_20 : decode cX2_grow 20 = .ok (.iaload, 1) := by decide +kernel
theorem dX2_grow_21 : decode cX2_grow 21 = .ok (.iastore, 1) := by decide +kernel
theorem dX2_grow_22 : decode cX2_grow 22 = .ok (.iinc 1 1, 3) := by decide +kernel
theorem dX2_grow_25 : decode cX2_grow 25 = .ok (.goto (-23), 3) := by decide +kernel
theorem dX2_grow_28 : decode cX2_grow 28 = .ok (.aload_n 0, 1) := by decide +kernel
theorem dX2_grow_29 : decode cX2_grow 29 = .ok (.getfield 36, 3) := by decide +kernel
theorem dX2_grow_32 : decode cX2_grow 32 = .ok (.iconst 2, 1) := by decide +kernel
theorem dX2_grow_33 : decode cX2_grow 33 = .ok (.if_icmp .eq 11, 3) := by decide +kernel
theorem dX2_grow_36 : decode cX2_grow 36 = .ok (.aload_n 0, 1) := by decide +kernel
theorem dX2_grow_37 : decode cX2_grow 37 = .ok (.getfield 36, 3) := by decide +kernel
theorem dX2_grow_40 : decode cX2_grow 40 = .ok (.iconst 3, 1) := by decide +kernel
theorem dX2_grow_41 : decode cX2_grow 41 = .ok (.if_icmp .ne 20, 3) := by decide +kernel
theorem dX2_grow_44 : decode cX2_grow 44 = .ok (.aload_n 0, 1) := by decide +kernel
theorem dX2_grow_45 : decode cX2_grow 45 = .ok (.dup, 1) := by decide +kernel
theorem dX2_grow_46 : decode cX2_grow 46 = .ok (.getfield 39, 3) := by decide +kernel
theorem dX2_grow_49 : decode cX2_grow 49 = .ok (.iconst 1, 1) := by decide +kernel
theorem dX2_grow_50 : decode cX2_grow 50 = .ok (.iadd, 1) := by decide +kernel
theorem dX2_grow_51 : decode cX2_grow 51 = .ok (.putfield 39, 3) := by decide +kernel
theorem dX2_grow_54 : decode cX2_grow 54 = .ok (.aload_n 0, 1) := by decide +kernel
theorem dX2_grow_55 : decode cX2_grow 55 = .ok (.invokevirtual 64, 3) := by decide +kernel
theorem dX2_grow_58 : decode cX2_grow 58 = .ok (.goto 17, 3) := by decide +kernel
theorem dX2_grow_61 : decode cX2_grow 61 = .ok (.aload_n 0, 1) := by decide +kernel
theorem dX2_grow_62 : decode cX2_grow 62 = .ok (.aload_n 0, 1) := by decide +kernel
theorem dX2_grow_63 : decode cX2_grow 63 = .ok (.getfield 36, 3) := by decide +kernel
theorem dX2_grow_66 : decode cX2_grow 66 = .ok (.aload_n 0, 1) := by decide +kernel
theorem dX2_grow_67 : decode cX2_grow 67 = .ok (.getfield 39, 3) := by decide +kernel
theorem dX2_grow_70 : decode cX2_grow 70 = .ok (.iconst 1, 1) := by decide +kernel
theorem dX2_grow_71 : decode cX2_grow 71 = .ok (.iadd, 1) := by decide +kernel
theorem dX2_grow_72 : decode cX2_grow 72 = .ok (.invokevirtual 67, 3) := by decide +kernel
theorem dX2_grow_75 : decode cX2_grow 75 = .ok (.return_, 1) := by decide +kernel
theorem dX2_got_0 : decode cX2_got 0 = .ok (.iload_n 1, 1) := by decide +kernel
theorem dX2_got_1 : decode cX2_got 1 = .ok (.ifCond .lt 20, 3) := by decide +kernel
theorem dX2_got_4 : decode cX2_got 4 = .ok (.iload_n 1, 1) := by decide +kernel
theorem dX2_got_5 : decode cX2_got 5 = .ok (.aload_n 0, 1) := by decide +kernel
theorem dX2_got_6 : decode cX2_got 6 = .ok (.getfield 32, 3) := by decide +kernel
theorem dX2_got_9 : decode cX2_got 9 = .ok (.if_icmp .ge 12, 3) := by decide +kernel
theorem dX2_got_12 : decode cX2_got 12 = .ok (.aload_n 0, 1) := by decide +kernel
theorem dX2_got_13 : decode cX2_got 13 = .ok (.getfield 25, 3) := by decide +kernel
theorem dX2_got_16 : decode cX2_got 16 = .ok (.iload_n 1, 1) := by decide +kernel
theorem dX2_got_17 : decode cX2_got 17 = .ok (.iaload, 1) := by decide +kernel
theorem dX2_got_18 : decode cX2_got 18 = .ok (.goto 4, 3) := by decide +kernel
theorem dX2_got_21 : decode cX2_got 21 = .ok (.iconst 0, 1) := by decide +kernel
theorem dX2_got_22 : decode cX2_got 22 = .ok (.ireturn, 1) := by decide +kernel
theorem dX2_given_0 : decode cX2_given 0 = .ok (.iconst 0, 1) := by decide +kernel
theorem dX2_given_1 : decode cX2_given 1 = .ok (.istore_n 1, 1) := by decide +kernel
theorem dX2_given_2 : decode cX2_given 2 = .ok (.iconst 0, 1) := by decide +kernel
theorem dX2_given_3 : decode cX2_given 3 = .ok (.istore_n 2, 1) := by decide +kernel
theorem dX2_given_4 : decode cX2_given 4 = .ok (.iload_n 2, 1) := by decide +kernel
theorem dX2_given_5 : decode cX2_given 5 = .ok (.aload_n 0, 1) := by decide +kernel
theorem dX2_given_6 : decode cX2_given 6 = .ok (.getfield 32, 3) := by decide +kernel
theorem dX2_given_9 : decode cX2_given 9 = .ok (.if_icmp .ge 18, 3) := by decide +kernel
theorem dX2_given_12 : decode cX2_given 12 = .ok (.iload_n 1, 1) := by decide +kernel
theorem dX2_given_13 : decode cX2_given 13 = .ok (.aload_n 0, 1) := by decide +kernel
theorem dX2_given_14 : decode cX2_given 14 = .ok (.getfield 25, 3) := by decide +kernel
theorem dX2_given_17 : decode cX2_given 17 = .ok (.iload_n 2, 1) := by decide +kernel
theorem dX2_given_18 : decode cX2_given 18 = .ok (.iaload, 1) := by decide +kernel
theorem dX2_given_19 : decode cX2_given 19 = .ok (.iadd, 1) := by decide +kernel
theorem dX2_given_20 : decode cX2_given 20 = .ok (.istore_n 1, 1) := by decide +kernel
theorem dX2_given_21 : decode cX2_given 21 = .ok (.iinc 2 1, 3) := by decide +kernel
theorem dX2_given_24 : decode cX2_given 24 = .ok (.goto (-20), 3) := by decide +kernel
theorem dX2_given_27 : decode cX2_given 27 = .ok (.iload_n 1, 1) := by decide +kernel
theorem dX2_given_28 : decode cX2_given 28 = .ok (.ireturn, 1) := by decide +kernel
theorem dX2_isOff_0 : decode cX2_isOff 0 = .ok (.iload_n 1, 1) := by decide +kernel
theorem dX2_isOff_1 : decode cX2_isOff 1 = .ok (.ifCond .lt 51, 3) := by decide +kernel
theorem dX2_isOff_4 : decode cX2_isOff 4 = .ok (.iload_n 1, 1) := by decide +kernel
theorem dX2_isOff_5 : decode cX2_isOff 5 = .ok (.aload_n 0, 1) := by decide +kernel
theorem dX2_isOff_6 : decode cX2_isOff 6 = .ok (.getfield 32, 3) := by decide +kernel
theorem dX2_isOff_9 : decode cX2_isOff 9 = .ok (.if_icmp .ge 43, 3) := by decide +kernel
theorem dX2_isOff_12 : decode cX2_isOff 12 = .ok (.aload_n 0, 1) := by decide +kernel
theorem dX2_isOff_13 : decode cX2_isOff 13 = .ok (.getfield 25, 3) := by decide +kernel
theorem dX2_isOff_16 : decode cX2_isOff 16 = .ok (.iload_n 1, 1) := by decide +kernel
theorem dX2_isOff_17 : decode cX2_isOff 17 = .ok (.iaload, 1) := by decide +kernel
theorem dX2_isOff_18 : decode cX2_isOff 18 = .ok (.i2l, 1) := by decide +kernel
theorem dX2_isOff_19 : decode cX2_isOff 19 = .ok (.aload_n 0, 1) := by decide +kernel
theorem dX2_isOff_20 : decode cX2_isOff 20 = .ok (.getfield 15, 3) := by decide +kernel
theorem dX2_isOff_23 : decode cX2_isOff 23 = .ok (.lmul, 1) := by decide +kernel
theorem dX2_isOff_24 : decode cX2_isOff 24 = .ok (.aload_n 0, 1) := by decide +kernel
theorem dX2_isOff_25 : decode cX2_isOff 25 = .ok (.getfield 39, 3) := by decide +kernel
theorem dX2_isOff_28 : decode cX2_isOff 28 = .ok (.i2l, 1) := by decide +kernel
theorem dX2_isOff_29 : decode cX2_isOff 29 = .ok (.aload_n 0, 1) := by decide +kernel
theorem dX2_isOff_30 : decode cX2_isOff 30 = .ok (.getfield 18, 3) := by decide +kernel
theorem dX2_isOff_33 : decode cX2_isOff 33 = .ok (.iload_n 1, 1) := by decide +kernel
theorem dX2_isOff_34 : decode cX2_isOff 34 = .ok (.laload, 1) := by decide +kernel
theorem dX2_isOff_35 : decode cX2_isOff 35 = .ok (.lmul, 1) := by decide +kernel
theorem dX2_isOff_36 : decode cX2_isOff 36 = .ok (.lsub, 1) := by decide +kernel
theorem dX2_isOff_37 : decode cX2_isOff 37 = .ok (.invokestatic 71, 3) := by decide +kernel
theorem dX2_isOff_40 : decode cX2_isOff 40 = .ok (.aload_n 0, 1) := by decide +kernel
theorem dX2_isOff_41 : decode cX2_isOff 41 = .ok (.getfield 15, 3) := by decide +kernel
theorem dX2_isOff_44 : decode cX2_isOff 44 = .ok (.lcmp, 1) := by decide +kernel
theorem dX2_isOff_45 : decode cX2_isOff 45 = .ok (.ifCond .lt 7, 3) := by decide +kernel
theorem dX2_isOff_48 : decode cX2_isOff 48 = .ok (.iconst 1, 1) := by decide +kernel
theorem dX2_isOff_49 : decode cX2_isOff 49 = .ok (.goto 4, 3) := by decide +kernel
theorem dX2_isOff_52 : decode cX2_isOff 52 = .ok (.iconst 0, 1) := by decide +kernel
theorem dX2_isOff_53 : decode cX2_isOff 53 = .ok (.ireturn, 1) := by decide +kernel
theorem dX2_firstOff_0 : decode cX2_firstOff 0 = .ok (.iconst 0, 1) := by decide +kernel
theorem dX2_firstOff_1 : decode cX2_firstOff 1 = .ok (.istore_n 1, 1) := by decide +kernel
theorem dX2_firstOff_2 : decode cX2_firstOff 2 = .ok (.iload_n 1, 1) := by decide +kernel
theorem dX2_firstOff_3 : decode cX2_firstOff 3 = .ok (.aload_n 0, 1) := by decide +kernel
theorem dX2_firstOff_4 : decode cX2_firstOff 4 = .ok (.getfield 32, 3) := by decide +kernel
theorem dX2_firstOff_7 : decode cX2_firstOff 7 = .ok (.if_icmp .ge 19, 3) := by decide +kernel
theorem dX2_firstOff_10 : decode cX2_firstOff 10 = .ok (.aload_n 0, 1) := by decide +kernel
theorem dX2_firstOff_11 : decode cX2_firstOff 11 = .ok (.iload_n 1, 1) := by decide +kernel
theorem dX2_firstOff_12 : decode cX2_firstOff 12 = .ok (.invokevirtual 77, 3) := by decide +kernel
theorem dX2_firstOff_15 : decode cX2_firstOff 15 = .ok (.ifCond .eq 5, 3) := by decide +kernel
theorem dX2_firstOff_18 : decode cX2_firstOff 18 = .ok (.iload_n 1, 1) := by decide +kernel
theorem dX2_firstOff_19 : decode cX2_firstOff 19 = .ok (.ireturn, 1) := by decide +kernel
theorem dX2_firstOff_20 : decode cX2_firstOff 20 = .ok (.iinc 1 1, 3) := by decide +kernel
theorem dX2_firstOff_23 : decode cX2_firstOff 23 = .ok (.goto (-21), 3) := by decide +kernel
theorem dX2_firstOff_26 : decode cX2_firstOff 26 = .ok (.iconst (-1), 1) := by decide +kernel
theorem dX2_firstOff_27 : decode cX2_firstOff 27 = .ok (.ireturn, 1) := by decide +kernel
theorem dX2_firstLoser_0 : decode cX2_firstLoser 0 = .ok (.iconst 0, 1) := by decide +kernel
theorem dX2_firstLoser_1 : decode cX2_firstLoser 1 = .ok (.istore_n 1, 1) := by decide +kernel
theorem dX2_firstLoser_2 : decode cX2_firstLoser 2 = .ok (.iload_n 1, 1) := by decide +kernel
theorem dX2_firstLoser_3 : decode cX2_firstLoser 3 = .ok (.aload_n 0, 1) := by decide +kernel
theorem dX2_firstLoser_4 : decode cX2_firstLoser 4 = .ok (.getfield 32, 3) := by decide +kernel
theorem dX2_firstLoser_7 : decode cX2_firstLoser 7 = .ok (.if_icmp .ge 26, 3) := by decide +kernel
theorem dX2_firstLoser_10 : decode cX2_firstLoser 10 = .ok (.aload_n 0, 1) := by decide +kernel
theorem dX2_firstLoser_11 : decode cX2_firstLoser 11 = .ok (.getfield 25, 3) := by decide +kernel
theorem dX2_firstLoser_14 : decode cX2_firstLoser 14 = .ok (.iload_n 1, 1) := by decide +kernel
theorem dX2_firstLoser_15 : decode cX2_firstLoser 15 = .ok (.iaload, 1) := by decide +kernel
theorem dX2_firstLoser_16 : decode cX2_firstLoser 16 = .ok (.aload_n 0, 1) := by decide +kernel
theorem dX2_firstLoser_17 : decode cX2_firstLoser 17 = .ok (.getfield 29, 3) := by decide +kernel
theorem dX2_firstLoser_20 : decode cX2_firstLoser 20 = .ok (.iload_n 1, 1) := by decide +kernel
theorem dX2_firstLoser_21 : decode cX2_firstLoser 21 = .ok (.iaload, 1) := by decide +kernel
theorem dX2_firstLoser_22 : decode cX2_firstLoser 22 = .ok (.if_icmp .ge 5, 3) := by decide +kernel
theorem dX2_firstLoser_25 : decode cX2_firstLoser 25 = .ok (.iload_n 1, 1) := by decide +kernel
theorem dX2_firstLoser_26 : decode cX2_firstLoser 26 = .ok (.ireturn, 1) := by decide +kernel
theorem dX2_firstLoser_27 : decode cX2_firstLoser 27 = .ok (.iinc 1 1, 3) := by decide +kernel
theorem dX2_firstLoser_30 : decode cX2_firstLoser 30 = .ok (.goto (-28), 3) := by decide +kernel
theorem dX2_firstLoser_33 : decode cX2_firstLoser 33 = .ok (.iconst (-1), 1) := by decide +kernel
theorem dX2_firstLoser_34 : decode cX2_firstLoser 34 = .ok (.ireturn, 1) := by decide +kernel
theorem dX2_givesAs_0 : decode cX2_givesAs 0 = .ok (.iconst 0, 1) := by decide +kernel
theorem dX2_givesAs_1 : decode cX2_givesAs 1 = .ok (.istore_n 2, 1) := by decide +kernel
theorem dX2_givesAs_2 : decode cX2_givesAs 2 = .ok (.iload_n 2, 1) := by decide +kernel
theorem dX2_givesAs_3 : decode cX2_givesAs 3 = .ok (.aload_n 0, 1) := by decide +kernel
theorem dX2_givesAs_4 : decode cX2_givesAs 4 = .ok (.getfield 32, 3) := by decide +kernel
theorem dX2_givesAs_7 : decode cX2_givesAs 7 = .ok (.if_icmp .ge 25, 3) := by decide +kernel
theorem dX2_givesAs_10 : decode cX2_givesAs 10 = .ok (.aload_n 0, 1) := by decide +kernel
theorem dX2_givesAs_11 : decode cX2_givesAs 11 = .ok (.getfield 25, 3) := by decide +kernel
theorem dX2_givesAs_14 : decode cX2_givesAs 14 = .ok (.iload_n 2, 1) := by decide +kernel
theorem dX2_givesAs_15 : decode cX2_givesAs 15 = .ok (.iaload, 1) := by decide +kernel
theorem dX2_givesAs_16 : decode cX2_givesAs 16 = .ok (.aload_n 1, 1) := by decide +kernel
theorem dX2_givesAs_17 : decode cX2_givesAs 17 = .ok (.iload_n 2, 1) := by decide +kernel
theorem dX2_givesAs_18 : decode cX2_givesAs 18 = .ok (.invokevirtual 81, 3) := by decide +kernel
theorem dX2_givesAs_21 : decode cX2_givesAs 21 = .ok (.if_icmp .eq 5, 3) := by decide +kernel
theorem dX2_givesAs_24 : decode cX2_givesAs 24 = .ok (.iconst 0, 1) := by decide +kernel
theorem dX2_givesAs_25 : decode cX2_givesAs 25 = .ok (.ireturn, 1) := by decide +kernel
theorem dX2_givesAs_26 : decode cX2_givesAs 26 = .ok (.iinc 2 1, 3) := by decide +kernel
theorem dX2_givesAs_29 : decode cX2_givesAs 29 = .ok (.goto (-27), 3) := by decide +kernel
theorem dX2_givesAs_32 : decode cX2_givesAs 32 = .ok (.iconst 1, 1) := by decide +kernel
theorem dX2_givesAs_33 : decode cX2_givesAs 33 = .ok (.ireturn, 1) := by decide +kernel
theorem dX2_isAsSeen_0 : decode cX2_isAsSeen 0 = .ok (.iconst 0, 1) := by decide +kernel
theorem dX2_isAsSeen_1 : decode cX2_isAsSeen 1 = .ok (.istore_n 2, 1) := by decide +kernel
theorem dX2_isAsSeen_2 : decode cX2_isAsSeen 2 = .ok (.iload_n 2, 1) := by decide +kernel
theorem dX2_isAsSeen_3 : decode cX2_isAsSeen 3 = .ok (.aload_n 1, 1) := by decide +kernel
theorem dX2_isAsSeen_4 : decode cX2_isAsSeen 4 = .ok (.getfield 85, 3) := by decide +kernel
theorem dX2_isAsSeen_7 : decode cX2_isAsSeen 7 = .ok (.if_icmp .ge 40, 3) := by decide +kernel
theorem dX2_isAsSeen_10 : decode cX2_isAsSeen 10 = .ok (.aload_n 1, 1) := by decide +kernel
theorem dX2_isAsSeen_11 : decode cX2_isAsSeen 11 = .ok (.getfield 88, 3) := by decide +kernel
theorem dX2_isAsSeen_14 : decode cX2_isAsSeen 14 = .ok (.iload_n 2, 1) := by decide +kernel
theorem dX2_isAsSeen_15 : decode cX2_isAsSeen 15 = .ok (.iaload, 1) := by decide +kernel
theorem dX2_isAsSeen_16 : decode cX2_isAsSeen 16 = .ok (.istore_n 3, 1) := by decide +kernel
theorem dX2_isAsSeen_17 : decode cX2_isAsSeen 17 = .ok (.iload_n 3, 1) := by decide +kernel
theorem dX2_isAsSeen_18 : decode cX2_isAsSeen 18 = .ok (.aload_n 0, 1) := by decide +kernel
theorem dX2_isAsSeen_19 : decode cX2_isAsSeen 19 = .ok (.getfield 32, 3) := by decide +kernel
theorem dX2_isAsSeen_22 : decode cX2_isAsSeen 22 = .ok (.if_icmp .ge 17, 3) := by decide +kernel
theorem dX2_isAsSeen_25 : decode cX2_isAsSeen 25 = .ok (.aload_n 0, 1) := by decide +kernel
theorem dX2_isAsSeen_26 : decode cX2_isAsSeen 26 = .ok (.iload_n 3, 1) := by decide +kernel
theorem dX2_isAsSeen_27 : decode cX2_isAsSeen 27 = .ok (.invokevirtual 81, 3) := by decide +kernel
theorem dX2_isAsSeen_30 : decode cX2_isAsSeen 30 = .ok (.aload_n 1, 1) := by decide +kernel
theorem dX2_isAsSeen_31 : decode cX2_isAsSeen 31 = .ok (.getfield 91, 3) := by decide +kernel
theorem dX2_isAsSeen_34 : decode cX2_isAsSeen 34 = .ok (.iload_n 2, 1) := by decide +kernel
theorem dX2_isAsSeen_35 : decode cX2_isAsSeen 35 = .ok (.iaload, 1) := by decide +kernel
theorem dX2_isAsSeen_36 : decode cX2_isAsSeen 36 = .ok (.if_icmp .eq 5, 3) := by decide +kernel
theorem dX2_isAsSeen_39 : decode cX2_isAsSeen 39 = .ok (.iconst 0, 1) := by decide +kernel
theorem dX2_isAsSeen_40 : decode cX2_isAsSeen 40 = .ok (.ireturn, 1) := by decide +kernel
theorem dX2_isAsSeen_41 : decode cX2_isAsSeen 41 = .ok (.iinc 2 1, 3) := by decide +kernel
theorem dX2_isAsSeen_44 : decode cX2_isAsSeen 44 = .ok (.goto (-42), 3) := by decide +kernel
theorem dX2_isAsSeen_47 : decode cX2_isAsSeen 47 = .ok (.iconst 1, 1) := by decide +kernel
theorem dX2_isAsSeen_48 : decode cX2_isAsSeen 48 = .ok (.ireturn, 1) := by decide +kernel
theorem dX2_giveTold_0 : decode cX2_giveTold 0 = .ok (.aload_n 0, 1) := by decide +kernel
theorem dX2_giveTold_1 : decode cX2_giveTold 1 = .ok (.getfield 39, 3) := by decide +kernel
theorem dX2_giveTold_4 : decode cX2_giveTold 4 = .ok (.istore_n 1, 1) := by decide +kernel
theorem dX2_giveTold_5 : decode cX2_giveTold 5 = .ok (.iconst 0, 1) := by decide +kernel
theorem dX2_giveTold_6 : decode cX2_giveTold 6 = .ok (.istore_n 2, 1) := by decide +kernel
theorem dX2_giveTold_7 : decode cX2_giveTold 7 = .ok (.iload_n 2, 1) := by decide +kernel
theorem dX2_giveTold_8 : decode cX2_giveTold 8 = .ok (.aload_n 0, 1) := by decide +kernel
theorem dX2_giveTold_9 : decode cX2_giveTold 9 = .ok (.getfield 32, 3) := by decide +kernel
theorem dX2_giveTold_12 : decode cX2_giveTold 12 = .ok (.if_icmp .ge 49, 3) := by decide +kernel
theorem dX2_giveTold_15 : decode cX2_giveTold 15 = .ok (.aload_n 0, 1) := by decide +kernel
theorem dX2_giveTold_16 : decode cX2_giveTold 16 = .ok (.getfield 25, 3) := by decide +kernel
theorem dX2_giveTold_19 : decode cX2_giveTold 19 = .ok (.iload_n 2, 1) := by decide +kernel
theorem dX2_giveTold_20 : decode cX2_giveTold 20 = .ok (.iload_n 1, 1) := by decide +kernel
theorem dX2_giveTold_21 : decode cX2_giveTold 21 = .ok (.i2l, 1) := by decide +kernel
theorem dX2_giveTold_22 : decode cX2_giveTold 22 = .ok (.aload_n 0, 1) := by decide +kernel
theorem dX2_giveTold_23 : decode cX2_giveTold 23 = .ok (.getfield 39, 3) := by decide +kernel
theorem dX2_giveTold_26 : decode cX2_giveTold 26 = .ok (.i2l, 1) := by decide +kernel
theorem dX2_giveTold_27 : decode cX2_giveTold 27 = .ok (.aload_n 0, 1) := by decide +kernel
theorem dX2_giveTold_28 : decode cX2_giveTold 28 = .ok (.getfield 18, 3) := by decide +kernel
theorem dX2_giveTold_31 : decode cX2_giveTold 31 = .ok (.iload_n 2, 1) := by decide +kernel
theorem dX2_giveTold_32 : decode cX2_giveTold 32 = .ok (.laload, 1) := by decide +kernel
theorem dX2_giveTold_33 : decode cX2_giveTold 33 = .ok (.lmul, 1) := by decide +kernel
theorem dX2_giveTold_34 : decode cX2_giveTold 34 = .ok (.aload_n 0, 1) := by decide +kernel
theorem dX2_giveTold_35 : decode cX2_giveTold 35 = .ok (.getfield 9, 3) := by decide +kernel
theorem dX2_giveTold_38 : decode cX2_giveTold 38 = .ok (.invokestatic 48, 3) := by decide +kernel
theorem dX2_giveTold_41 : decode cX2_giveTold 41 = .ok (.invokestatic 94, 3) := by decide +kernel
theorem dX2_giveTold_44 : decode cX2_giveTold 44 = .ok (.l2i, 1) := by decide +kernel
theorem dX2_giveTold_45 : decode cX2_giveTold 45 = .ok (.iastore, 1) := by decide +kernel
theorem dX2_giveTold_46 : decode cX2_giveTold 46 = .ok (.iload_n 1, 1) := by decide +kernel
theorem dX2_giveTold_47 : decode cX2_giveTold 47 = .ok (.aload_n 0, 1) := by decide +kernel
theorem dX2_giveTold_48 : decode cX2_giveTold 48 = .ok (.getfield 25, 3) := by decide +kernel
theorem dX2_giveTold_51 : decode cX2_giveTold 51 = .ok (.iload_n 2, 1) := by decide +kernel
theorem dX2_giveTold_52 : decode cX2_giveTold 52 = .ok (.iaload, 1) := by decide +kernel
theorem dX2_giveTold_53 : decode cX2_giveTold 53 = .ok (.isub, 1) := by decide +kernel
theorem dX2_giveTold_54 : decode cX2_giveTold 54 = .ok (.istore_n 1, 1) := by decide +kernel
theorem dX2_giveTold_55 : decode cX2_giveTold 55 = .ok (.iinc 2 1, 3) := by decide +kernel
theorem dX2_giveTold_58 : decode cX2_giveTold 58 = .ok (.goto (-51), 3) := by decide +kernel
theorem dX2_giveTold_61 : decode cX2_giveTold 61 = .ok (.return_, 1) := by decide +kernel
theorem dX2_giveByRests_0 : decode cX2_giveByRests 0 = .ok (.aload_n 0, 1) := by decide +kernel
theorem dX2_giveByRests_1 : decode cX2_giveByRests 1 = .ok (.iconst 0, 1) := by decide +kernel
theorem dX2_giveByRests_2 : decode cX2_giveByRests 2 = .ok (.invokevirtual 97, 3) := by decide +kernel
theorem dX2_giveByRests_5 : decode cX2_giveByRests 5 = .ok (.iconst 0, 1) := by decide +kernel
theorem dX2_giveByRests_6 : decode cX2_giveByRests 6 = .ok (.istore_n 1, 1) := by decide +kernel
theorem dX2_giveByRests_7 : decode cX2_giveByRests 7 = .ok (.iload_n 1, 1) := by decide +kernel
theorem dX2_giveByRests_8 : decode cX2_giveByRests 8 = .ok (.aload_n 0, 1) := by decide +kernel
theorem dX2_giveByRests_9 : decode cX2_giveByRests 9 = .ok (.getfield 32, 3) := by decide +kernel
theorem dX2_giveByRests_12 : decode cX2_giveByRests 12 = .ok (.if_icmp .ge 34, 3) := by decide +kernel
theorem dX2_giveByRests_15 : decode cX2_giveByRests 15 = .ok (.aload_n 0, 1) := by decide +kernel
theorem dX2_giveByRests_16 : decode cX2_giveByRests 16 = .ok (.getfield 22, 3) := by decide +kernel
theorem dX2_giveByRests_19 : decode cX2_giveByRests 19 = .ok (.iload_n 1, 1) := by decide +kernel
theorem dX2_giveByRests_20 : decode cX2_giveByRests 20 = .ok (.aload_n 0, 1) := by decide +kernel
theorem dX2_giveByRests_21 : decode cX2_giveByRests 21 = .ok (.getfield 39, 3) := by decide +kernel
theorem dX2_giveByRests_24 : decode cX2_giveByRests 24 = .ok (.i2l, 1) := by decide +kernel
theorem dX2_giveByRests_25 : decode cX2_giveByRests 25 = .ok (.aload_n 0, 1) := by decide +kernel
theorem dX2_giveByRests_26 : decode cX2_giveByRests 26 = .ok (.getfield 18, 3) := by decide +kernel
theorem dX2_giveByRests_29 : decode cX2_giveByRests 29 = .ok (.iload_n 1, 1) := by decide +kernel
theorem dX2_giveByRests_30 : decode cX2_giveByRests 30 = .ok (.laload, 1) := by decide +kernel
theorem dX2_giveByRests_31 : decode cX2_giveByRests 31 = .ok (.lmul, 1) := by decide +kernel
theorem dX2_giveByRests_32 : decode cX2_giveByRests 32 = .ok (.aload_n 0, 1) := by decide +kernel
theorem dX2_giveByRests_33 : decode cX2_giveByRests 33 = .ok (.getfield 15, 3) := by decide +kernel
theorem dX2_giveByRests_36 : decode cX2_giveByRests 36 = .ok (.invokestatic 101, 3) := by decide +kernel
theorem dX2_giveByRests_39 : decode cX2_giveByRests 39 = .ok (.lastore, 1) := by decide +kernel
theorem dX2_giveByRests_40 : decode cX2_giveByRests 40 = .ok (.iinc 1 1, 3) := by decide +kernel
theorem dX2_giveByRests_43 : decode cX2_giveByRests 43 = .ok (.goto (-36), 3) := by decide +kernel
theorem dX2_giveByRests_46 : decode cX2_giveByRests 46 = .ok (.aload_n 0, 1) := by decide +kernel
theorem dX2_giveByRests_47 : decode cX2_giveByRests 47 = .ok (.getfield 39, 3) := by decide +kernel
theorem dX2_giveByRests_50 : decode cX2_giveByRests 50 = .ok (.aload_n 0, 1) := by decide +kernel
theorem dX2_giveByRests_51 : decode cX2_giveByRests 51 = .ok (.invokevirtual 104, 3) := by decide +kernel
theorem dX2_giveByRests_54 : decode cX2_giveByRests 54 = .ok (.isub, 1) := by decide +kernel
theorem dX2_giveByRests_55 : decode cX2_giveByRests 55 = .ok (.istore_n 1, 1) := by decide +kernel
theorem dX2_giveByRests_56 : decode cX2_giveByRests 56 = .ok (.iload_n 1, 1) := by decide +kernel
theorem dX2_giveByRests_57 : decode cX2_giveByRests 57 = .ok (.ifCond .le 13, 3) := by decide +kernel
theorem dX2_giveByRests_60 : decode cX2_giveByRests 60 = .ok (.aload_n 0, 1) := by decide +kernel
theorem dX2_giveByRests_61 : decode cX2_giveByRests 61 = .ok (.invokevirtual 108, 3) := by decide +kernel
theorem dX2_giveByRests_64 : decode cX2_giveByRests 64 = .ok (.iinc 1 (-1), 3) := by decide +kernel
theorem dX2_giveByRests_67 : decode cX2_giveByRests 67 = .ok (.goto (-11), 3) := by decide +kernel
theorem dX2_giveByRests_70 : decode cX2_giveByRests 70 = .ok (.return_, 1) := by decide +kernel
theorem dX2_giveByGreatestRest_0 : decode cX2_giveByGreatestRest 0 = .ok (.iconst 0, 1) := by decide +kernel
theorem dX2_giveByGreatestRest_1 : decode cX2_giveByGreatestRest 1 = .ok (.istore_n 1, 1) := by decide +kernel
theorem dX2_giveByGreatestRest_2 : decode cX2_giveByGreatestRest 2 = .ok (.iconst 1, 1) := by decide +kernel
theorem dX2_giveByGreatestRest_3 : decode cX2_giveByGreatestRest 3 = .ok (.istore_n 2, 1) := by decide +kernel
theorem dX2_giveByGreatestRest_4 : decode cX2_giveByGreatestRest 4 = .ok (.iload_n 2, 1) := by decide +kernel
theorem dX2_giveByGreatestRest_5 : decode cX2_giveByGreatestRest 5 = .ok (.aload_n 0, 1) := by decide +kernel
theorem dX2_giveByGreatestRest_6 : decode cX2_giveByGreatestRest 6 = .ok (.getfield 32, 3) := by decide +kernel
theorem dX2_giveByGreatestRest_9 : decode cX2_giveByGreatestRest 9 = .ok (.if_icmp .ge 27, 3) := by decide +kernel
theorem dX2_giveByGreatestRest_12 : decode cX2_giveByGreatestRest 12 = .ok (.aload_n 0, 1) := by decide +kernel
theorem dX2_giveByGreatestRest_13 : decode cX2_giveByGreatestRest 13 = .ok (.getfield 22, 3) := by decide +kernel
theorem dX2_giveByGreatestRest_16 : decode cX2_giveByGreatestRest 16 = .ok (.iload_n 2, 1) := by decide +kernel
theorem dX2_giveByGreatestRest_17 : decode cX2_giveByGreatestRest 17 = .ok (.laload, 1) := by decide +kernel
theorem dX2_giveByGreatestRest_18 : decode cX2_giveByGreatestRest 18 = .ok (.aload_n 0, 1) := by decide +kernel
theorem dX2_giveByGreatestRest_19 : decode cX2_giveByGreatestRest 19 = .ok (.getfield 22, 3) := by decide +kernel
theorem dX2_giveByGreatestRest_22 : decode cX2_giveByGreatestRest 22 = .ok (.iload_n 1, 1) := by decide +kernel
theorem dX2_giveByGreatestRest_23 : decode cX2_giveByGreatestRest 23 = .ok (.laload, 1) := by decide +kernel
theorem dX2_giveByGreatestRest_24 : decode cX2_giveByGreatestRest 24 = .ok (.lcmp, 1) := by decide +kernel
theorem dX2_giveByGreatestRest_25 : decode cX2_giveByGreatestRest 25 = .ok (.ifCond .le 5, 3) := by decide +kernel
theorem dX2_giveByGreatestRest_28 : decode cX2_giveByGreatestRest 28 = .ok (.iload_n 2, 1) := by decide +kernel
theorem dX2_giveByGreatestRest_29 : decode cX2_giveByGreatestRest 29 = .ok (.istore_n 1, 1) := by decide +kernel
theorem dX2_giveByGreatestRest_30 : decode cX2_giveByGreatestRest 30 = .ok (.iinc 2 1, 3) := by decide +kernel
theorem dX2_giveByGreatestRest_33 : decode cX2_giveByGreatestRest 33 = .ok (.goto (-29), 3) := by decide +kernel
theorem dX2_giveByGreatestRest_36 : decode cX2_giveByGreatestRest 36 = .ok (.iload_n 1, 1) := by decide +kernel
theorem dX2_giveByGreatestRest_37 : decode cX2_giveByGreatestRest 37 = .ok (.aload_n 0, 1) := by decide +kernel
theorem dX2_giveByGreatestRest_38 : decode cX2_giveByGreatestRest 38 = .ok (.getfield 32, 3) := by decide +kernel
theorem dX2_giveByGreatestRest_41 : decode cX2_giveByGreatestRest 41 = .ok (.if_icmp .ge 22, 3) := by decide +kernel
theorem dX2_giveByGreatestRest_44 : decode cX2_giveByGreatestRest 44 = .ok (.aload_n 0, 1) := by decide +kernel
theorem dX2_giveByGreatestRest_45 : decode cX2_giveByGreatestRest 45 = .ok (.getfield 25, 3) := by decide +kernel
theorem dX2_giveByGreatestRest_48 : decode cX2_giveByGreatestRest 48 = .ok (.iload_n 1, 1) := by decide +kernel
theorem dX2_giveByGreatestRest_49 : decode cX2_giveByGreatestRest 49 = .ok (.dup2, 1) := by decide +kernel
theorem dX2_giveByGreatestRest_50 : decode cX2_giveByGreatestRest 50 = .ok (.iaload, 1) := by decide +kernel
theorem dX2_giveByGreatestRest_51 : decode cX2_giveByGreatestRest 51 = .ok (.iconst 1, 1) := by decide +kernel
theorem dX2_giveByGreatestRest_52 : decode cX2_giveByGreatestRest 52 = .ok (.iadd, 1) := by decide +kernel
theorem dX2_giveByGreatestRest_53 : decode cX2_giveByGreatestRest 53 = .ok (.iastore, 1) := by decide +kernel
theorem dX2_giveByGreatestRest_54 : decode cX2_giveByGreatestRest 54 = .ok (.aload_n 0, 1) := by decide +kernel
theorem dX2_giveByGreatestRest_55 : decode cX2_giveByGreatestRest 55 = .ok (.getfield 22, 3) := by decide +kernel
theorem dX2_giveByGreatestRest_58 : decode cX2_giveByGreatestRest 58 = .ok (.iload_n 1, 1) := by decide +kernel
theorem dX2_giveByGreatestRest_59 : decode cX2_giveByGreatestRest 59 = .ok (.ldc2_w 111, 3) := by decide +kernel
theorem dX2_giveByGreatestRest_62 : decode cX2_giveByGreatestRest 62 = .ok (.lastore, 1) := by decide +kernel
theorem dX2_giveByGreatestRest_63 : decode cX2_giveByGreatestRest 63 = .ok (.return_, 1) := by decide +kernel
theorem dX2_giveByRow_0 : decode cX2_giveByRow 0 = .ok (.aload_n 0, 1) := by decide +kernel
theorem dX2_giveByRow_1 : decode cX2_giveByRow 1 = .ok (.iconst 3, 1) := by decide +kernel
theorem dX2_giveByRow_2 : decode cX2_giveByRow 2 = .ok (.invokevirtual 97, 3) := by decide +kernel
theorem dX2_giveByRow_5 : decode cX2_giveByRow 5 = .ok (.aload_n 0, 1) := by decide +kernel
theorem dX2_giveByRow_6 : decode cX2_giveByRow 6 = .ok (.getfield 39, 3) := by decide +kernel
theorem dX2_giveByRow_9 : decode cX2_giveByRow 9 = .ok (.aload_n 0, 1) := by decide +kernel
theorem dX2_giveByRow_10 : decode cX2_giveByRow 10 = .ok (.invokevirtual 104, 3) := by decide +kernel
theorem dX2_giveByRow_13 : decode cX2_giveByRow 13 = .ok (.isub, 1) := by decide +kernel
theorem dX2_giveByRow_14 : decode cX2_giveByRow 14 = .ok (.istore_n 1, 1) := by decide +kernel
theorem dX2_giveByRow_15 : decode cX2_giveByRow 15 = .ok (.iload_n 1, 1) := by decide +kernel
theorem dX2_giveByRow_16 : decode cX2_giveByRow 16 = .ok (.ifCond .le 13, 3) := by decide +kernel
theorem dX2_giveByRow_19 : decode cX2_giveByRow 19 = .ok (.aload_n 0, 1) := by decide +kernel
theorem dX2_giveByRow_20 : decode cX2_giveByRow 20 = .ok (.invokevirtual 64, 3) := by decide +kernel
theorem dX2_giveByRow_23 : decode cX2_giveByRow 23 = .ok (.iinc 1 (-1), 3) := by decide +kernel
theorem dX2_giveByRow_26 : decode cX2_giveByRow 26 = .ok (.goto (-11), 3) := by decide +kernel
theorem dX2_giveByRow_29 : decode cX2_giveByRow 29 = .ok (.return_, 1) := by decide +kernel
theorem dX2_giveQuotasLess_0 : decode cX2_giveQuotasLess 0 = .ok (.iconst 0, 1) := by decide +kernel
theorem dX2_giveQuotasLess_1 : decode cX2_giveQuotasLess 1 = .ok (.istore_n 2, 1) := by decide +kernel
theorem dX2_giveQuotasLess_2 : decode cX2_giveQuotasLess 2 = .ok (.iload_n 2, 1) := by decide +kernel
theorem dX2_giveQuotasLess_3 : decode cX2_giveQuotasLess 3 = .ok (.aload_n 0, 1) := by decide +kernel
theorem dX2_giveQuotasLess_4 : decode cX2_giveQuotasLess 4 = .ok (.getfield 32, 3) := by decide +kernel
theorem dX2_giveQuotasLess_7 : decode cX2_giveQuotasLess 7 = .ok (.if_icmp .ge 42, 3) := by decide +kernel
theorem dX2_giveQuotasLess_10 : decode cX2_giveQuotasLess 10 = .ok (.aload_n 0, 1) := by decide +kernel
theorem dX2_giveQuotasLess_11 : decode cX2_giveQuotasLess 11 = .ok (.getfield 25, 3) := by decide +kernel
theorem dX2_giveQuotasLess_14 : decode cX2_giveQuotasLess 14 = .ok (.iload_n 2, 1) := by decide +kernel
theorem dX2_giveQuotasLess_15 : decode cX2_giveQuotasLess 15 = .ok (.lconst 0, 1) := by decide +kernel
theorem dX2_giveQuotasLess_16 : decode cX2_giveQuotasLess 16 = .ok (.aload_n 0, 1) := by decide +kernel
theorem dX2_giveQuotasLess_17 : decode cX2_giveQuotasLess 17 = .ok (.getfield 39, 3) := by decide +kernel
theorem dX2_giveQuotasLess_20 : decode cX2_giveQuotasLess 20 = .ok (.i2l, 1) := by decide +kernel
theorem dX2_giveQuotasLess_21 : decode cX2_giveQuotasLess 21 = .ok (.aload_n 0, 1) := by decide +kernel
theorem dX2_giveQuotasLess_22 : decode cX2_giveQuotasLess 22 = .ok (.getfield 18, 3) := by decide +kernel
theorem dX2_giveQuotasLess_25 : decode cX2_giveQuotasLess 25 = .ok (.iload_n 2, 1) := by decide +kernel
theorem dX2_giveQuotasLess_26 : decode cX2_giveQuotasLess 26 = .ok (.laload, 1) := by decide +kernel
theorem dX2_giveQuotasLess_27 : decode cX2_giveQuotasLess 27 = .ok (.lmul, 1) := by decide +kernel
theorem dX2_giveQuotasLess_28 : decode cX2_giveQuotasLess 28 = .ok (.aload_n 0, 1) := by decide +kernel
theorem dX2_giveQuotasLess_29 : decode cX2_giveQuotasLess 29 = .ok (.getfield 15, 3) := by decide +kernel
theorem dX2_giveQuotasLess_32 : decode cX2_giveQuotasLess 32 = .ok (.invokestatic 48, 3) := by decide +kernel
theorem dX2_giveQuotasLess_35 : decode cX2_giveQuotasLess 35 = .ok (.iload_n 1, 1) := by decide +kernel
theorem dX2_giveQuotasLess_36 : decode cX2_giveQuotasLess 36 = .ok (.i2l, 1) := by decide +kernel
theorem dX2_giveQuotasLess_37 : decode cX2_giveQuotasLess 37 = .ok (.lsub, 1) := by decide +kernel
theorem dX2_giveQuotasLess_38 : decode cX2_giveQuotasLess 38 = .ok (.invokestatic 113, 3) := by decide +kernel
theorem dX2_giveQuotasLess_41 : decode cX2_giveQuotasLess 41 = .ok (.l2i, 1) := by decide +kernel
theorem dX2_giveQuotasLess_42 : decode cX2_giveQuotasLess 42 = .ok (.iastore, 1) := by decide +kernel
theorem dX2_giveQuotasLess_43 : decode cX2_giveQuotasLess 43 = .ok (.iinc 2 1, 3) := by decide +kernel
theorem dX2_giveQuotasLess_46 : decode cX2_giveQuotasLess 46 = .ok (.goto (-44), 3) := by decide +kernel
theorem dX2_giveQuotasLess_49 : decode cX2_giveQuotasLess 49 = .ok (.return_, 1) := by decide +kernel
theorem dX2_giveNext_0 : decode cX2_giveNext 0 = .ok (.iconst 0, 1) := by decide +kernel
theorem dX2_giveNext_1 : decode cX2_giveNext 1 = .ok (.istore_n 1, 1) := by decide +kernel
theorem dX2_giveNext_2 : decode cX2_giveNext 2 = .ok (.iconst 1, 1) := by decide +kernel
theorem dX2_giveNext_3 : decode cX2_giveNext 3 = .ok (.istore_n 2, 1) := by decide +kernel
theorem dX2_giveNext_4 : decode cX2_giveNext 4 = .ok (.iload_n 2, 1) := by decide +kernel
theorem dX2_giveNext_5 : decode cX2_giveNext 5 = .ok (.aload_n 0, 1) := by decide +kernel
theorem dX2_giveNext_6 : decode cX2_giveNext 6 = .ok (.getfield 32, 3) := by decide +kernel
theorem dX2_giveNext_9 : decode cX2_giveNext 9 = .ok (.if_icmp .ge 41, 3) := by decide +kernel
theorem dX2_giveNext_12 : decode cX2_giveNext 12 = .ok (.aload_n 0, 1) := by decide +kernel
theorem dX2_giveNext_13 : decode cX2_giveNext 13 = .ok (.getfield 18, 3) := by decide +kernel
theorem dX2_giveNext_16 : decode cX2_giveNext 16 = .ok (.iload_n 2, 1) := by decide +kernel
theorem dX2_giveNext_17 : decode cX2_giveNext 17 = .ok (.laload, 1) := by decide +kernel
theorem dX2_giveNext_18 : decode cX2_giveNext 18 = .ok (.aload_n 0, 1) := by decide +kernel
theorem dX2_giveNext_19 : decode cX2_giveNext 19 = .ok (.iload_n 1, 1) := by decide +kernel
theorem dX2_giveNext_20 : decode cX2_giveNext 20 = .ok (.invokevirtual 116, 3) := by decide +kernel
theorem dX2_giveNext_23 : decode cX2_giveNext 23 = .ok (.i2l, 1) := by decide +kernel
theorem dX2_giveNext_24 : decode cX2_giveNext 24 = .ok (.lmul, 1) := by decide +kernel
theorem dX2_giveNext_25 : decode cX2_giveNext 25 = .ok (.aload_n 0, 1) := by decide +kernel
theorem dX2_giveNext_26 : decode cX2_giveNext 26 = .ok (.getfield 18, 3) := by decide +kernel
theorem dX2_giveNext_29 : decode cX2_giveNext 29 = .ok (.iload_n 1, 1) := by decide +kernel
theorem dX2_giveNext_30 : decode cX2_giveNext 30 = .ok (.laload, 1) := by decide +kernel
theorem dX2_giveNext_31 : decode cX2_giveNext 31 = .ok (.aload_n 0, 1) := by decide +kernel
theorem dX2_giveNext_32 : decode cX2_giveNext 32 = .ok (.iload_n 2, 1) := by decide +kernel
theorem dX2_giveNext_33 : decode cX2_giveNext 33 = .ok (.invokevirtual 116, 3) := by decide +kernel
theorem dX2_giveNext_36 : decode cX2_giveNext 36 = .ok (.i2l, 1) := by decide +kernel
theorem dX2_giveNext_37 : decode cX2_giveNext 37 = .ok (.lmul, 1) := by decide +kernel
theorem dX2_giveNext_38 : decode cX2_giveNext 38 = .ok (.lcmp, 1) := by decide +kernel
theorem dX2_giveNext_39 : decode cX2_giveNext 39 = .ok (.ifCond .le 5, 3) := by decide +kernel
theorem dX2_giveNext_42 : decode cX2_giveNext 42 = .ok (.iload_n 2, 1) := by decide +kernel
theorem dX2_giveNext_43 : decode cX2_giveNext 43 = .ok (.istore_n 1, 1) := by decide +kernel
theorem dX2_giveNext_44 : decode cX2_giveNext 44 = .ok (.iinc 2 1, 3) := by decide +kernel
theorem dX2_giveNext_47 : decode cX2_giveNext 47 = .ok (.goto (-43), 3) := by decide +kernel
theorem dX2_giveNext_50 : decode cX2_giveNext 50 = .ok (.iload_n 1, 1) := by decide +kernel
theorem dX2_giveNext_51 : decode cX2_giveNext 51 = .ok (.aload_n 0, 1) := by decide +kernel
theorem dX2_giveNext_52 : decode cX2_giveNext 52 = .ok (.getfield 32, 3) := by decide +kernel
theorem dX2_giveNext_55 : decode cX2_giveNext 55 = .ok (.if_icmp .ge 13, 3) := by decide +kernel
theorem dX2_giveNext_58 : decode cX2_giveNext 58 = .ok (.aload_n 0, 1) := by decide +kernel
theorem dX2_giveNext_59 : decode cX2_giveNext 59 = .ok (.getfield 25, 3) := by decide +kernel
theorem dX2_giveNext_62 : decode cX2_giveNext 62 = .ok (.iload_n 1, 1) := by decide +kernel
theorem dX2_giveNext_63 : decode cX2_giveNext 63 = .ok (.dup2, 1) := by decide +kernel
theorem dX2_giveNext_64 : decode cX2_giveNext 64 = .ok (.iaload, 1) := by decide +kernel
theorem dX2_giveNext_65 : decode cX2_giveNext 65 = .ok (.iconst 1, 1) := by decide +kernel
theorem dX2_giveNext_66 : decode cX2_giveNext 66 = .ok (.iadd, 1) := by decide +kernel
theorem dX2_giveNext_67 : decode cX2_giveNext 67 = .ok (.iastore, 1) := by decide +kernel
theorem dX2_giveNext_68 : decode cX2_giveNext 68 = .ok (.return_, 1) := by decide +kernel
theorem dX2_rowDivisor_0 : decode cX2_rowDivisor 0 = .ok (.aload_n 0, 1) := by decide +kernel
theorem dX2_rowDivisor_1 : decode cX2_rowDivisor 1 = .ok (.getfield 36, 3) := by decide +kernel
theorem dX2_rowDivisor_4 : decode cX2_rowDivisor 4 = .ok (.iconst 3, 1) := by decide +kernel
theorem dX2_rowDivisor_5 : decode cX2_rowDivisor 5 = .ok (.if_icmp .ne 16, 3) := by decide +kernel
theorem dX2_rowDivisor_8 : decode cX2_rowDivisor 8 = .ok (.iconst 2, 1) := by decide +kernel
theorem dX2_rowDivisor_9 : decode cX2_rowDivisor 9 = .ok (.aload_n 0, 1) := by decide +kernel
theorem dX2_rowDivisor_10 : decode cX2_rowDivisor 10 = .ok (.getfield 25, 3) := by decide +kernel
theorem dX2_rowDivisor_13 : decode cX2_rowDivisor 13 = .ok (.iload_n 1, 1) := by decide +kernel
theorem dX2_rowDivisor_14 : decode cX2_rowDivisor 14 = .ok (.iaload, 1) := by decide +kernel
theorem dX2_rowDivisor_15 : decode cX2_rowDivisor 15 = .ok (.imul, 1) := by decide +kernel
theorem dX2_rowDivisor_16 : decode cX2_rowDivisor 16 = .ok (.iconst 1, 1) := by decide +kernel
theorem dX2_rowDivisor_17 : decode cX2_rowDivisor 17 = .ok (.iadd, 1) := by decide +kernel
theorem dX2_rowDivisor_18 : decode cX2_rowDivisor 18 = .ok (.goto 11, 3) := by decide +kernel
theorem dX2_rowDivisor_21 : decode cX2_rowDivisor 21 = .ok (.aload_n 0, 1) := by decide +kernel
theorem dX2_rowDivisor_22 : decode cX2_rowDivisor 22 = .ok (.getfield 25, 3) := by decide +kernel
theorem dX2_rowDivisor_25 : decode cX2_rowDivisor 25 = .ok (.iload_n 1, 1) := by decide +kernel
theorem dX2_rowDivisor_26 : decode cX2_rowDivisor 26 = .ok (.iaload, 1) := by decide +kernel
theorem dX2_rowDivisor_27 : decode cX2_rowDivisor 27 = .ok (.iconst 1, 1) := by decide +kernel
theorem dX2_rowDivisor_28 : decode cX2_rowDivisor 28 = .ok (.iadd, 1) := by decide +kernel
theorem dX2_rowDivisor_29 : decode cX2_rowDivisor 29 = .ok (.ireturn, 1) := by decide +kernel
theorem dX3_init_0 : decode cX3_init 0 = .ok (.aload_n 0, 1) := by decide +kernel
theorem dX3_init_1 : decode cX3_init 1 = .ok (.invokespecial 3, 3) := by decide +kernel
theorem dX3_init_4 : decode cX3_init 4 = .ok (.aload_n 0, 1) := by decide +kernel
theorem dX3_init_5 : decode cX3_init 5 = .ok (.new 9, 3) := by decide +kernel
theorem dX3_init_8 : decode cX3_init 8 = .ok (.dup, 1) := by decide +kernel
theorem dX3_init_9 : decode cX3_init 9 = .ok (.invokespecial 11, 3) := by decide +kernel
theorem dX3_init_12 : decode cX3_init 12 = .ok (.putfield 12, 3) := by decide +kernel
theorem dX3_init_15 : decode cX3_init 15 = .ok (.aload_n 0, 1) := by decide +kernel
theorem dX3_init_16 : decode cX3_init 16 = .ok (.new 18, 3) := by decide +kernel
theorem dX3_init_19 : decode cX3_init 19 = .ok (.dup, 1) := by decide +kernel
theorem dX3_init_20 : decode cX3_init 20 = .ok (.invokespecial 20, 3) := by decide +kernel
theorem dX3_init_23 : decode cX3_init 23 = .ok (.putfield 21, 3) := by decide +kernel
theorem dX3_init_26 : decode cX3_init 26 = .ok (.aload_n 0, 1) := by decide +kernel
theorem dX3_init_27 : decode cX3_init 27 = .ok (.iconst 0, 1) := by decide +kernel
theorem dX3_init_28 : decode cX3_init 28 = .ok (.putfield 25, 3) := by decide +kernel
theorem dX3_init_31 : decode cX3_init 31 = .ok (.aload_n 0, 1) := by decide +kernel
theorem dX3_init_32 : decode cX3_init 32 = .ok (.iconst 0, 1) := by decide +kernel
theorem dX3_init_33 : decode cX3_init 33 = .ok (.putfield 29, 3) := by decide +kernel
theorem dX3_init_36 : decode cX3_init 36 = .ok (.aload_n 0, 1) := by decide +kernel
theorem dX3_init_37 : decode cX3_init 37 = .ok (.iconst 0, 1) := by decide +kernel
theorem dX3_init_38 : decode cX3_init 38 = .ok (.putfield 32, 3) := by decide +kernel
theorem dX3_init_41 : decode cX3_init 41 = .ok (.aload_n 0, 1) := by decide +kernel
theorem dX3_init_42 : decode cX3_init 42 = .ok (.iconst 5, 1) := by decide +kernel
theorem dX3_init_43 : decode cX3_init 43 = .ok (.putfield 35, 3) := by decide +kernel
theorem dX3_init_46 : decode cX3_init 46 = .ok (.aload_n 0, 1) := by decide +kernel
theorem dX3_init_47 : decode cX3_init 47 = .ok (.iconst 0, 1) := by decide +kernel
theorem dX3_init_48 : decode cX3_init 48 = .ok (.putfield 38, 3) := by decide +kernel
theorem dX3_init_51 : decode cX3_init 51 = .ok (.aload_n 0, 1) := by decide +kernel
theorem dX3_init_52 : decode cX3_init 52 = .ok (.iconst 0, 1) := by decide +kernel
theorem dX3_init_53 : decode cX3_init 53 = .ok (.putfield 41, 3) := by decide +kernel
theorem dX3_init_56 : decode cX3_init 56 = .ok (.aload_n 0, 1) := by decide +kernel
theorem dX3_init_57 : decode cX3_init 57 = .ok (.iconst 0, 1) := by decide +kernel
theorem dX3_init_58 : decode cX3_init 58 = .ok (.putfield 45, 3) := by decide +kernel
theorem dX3_init_61 : decode cX3_init 61 = .ok (.return_, 1) := by decide +kernel
theorem dX3_parse_0 : decode cX3_parse 0 = .ok (.aload_n 0, 1) := by decide +kernel
theorem dX3_parse_1 : decode cX3_parse 1 = .ok (.getfield 21, 3) := by decide +kernel
theorem dX3_parse_4 : decode cX3_parse 4 = .ok (.invokevirtual 48, 3) := by decide +kernel
theorem dX3_parse_7 : decode cX3_parse 7 = .ok (.aload_n 0, 1) := by decide +kernel
theorem dX3_parse_8 : decode cX3_parse 8 = .ok (.iconst 0, 1) := by decide +kernel
theorem dX3_parse_9 : decode cX3_parse 9 = .ok (.putfield 25, 3) := by decide +kernel
theorem dX3_parse_12 : decode cX3_parse 12 = .ok (.aload_n 0, 1) := by decide +kernel
theorem dX3_parse_13 : decode cX3_parse 13 = .ok (.iconst 0, 1) := by decide +kernel
theorem dX3_parse_14 : decode cX3_parse 14 = .ok (.putfield 29, 3) := by decide +kernel
theorem dX3_parse_17 : decode cX3_parse 17 = .ok (.aload_n 0, 1) := by decide +kernel
theorem dX3_parse_18 : decode cX3_parse 18 = .ok (.iconst 0, 1) := by decide +kernel
theorem dX3_parse_19 : decode cX3_parse 19 = .ok (.putfield 32, 3) := by decide +kernel
theorem dX3_parse_22 : decode cX3_parse 22 = .ok (.aload_n 0, 1) := by decide +kernel
theorem dX3_parse_23 : decode cX3_parse 23 = .ok (.iconst 0, 1) := by decide +kernel
theorem dX3_parse_24 : decode cX3_parse 24 = .ok (.putfield 41, 3) := by decide +kernel
theorem dX3_parse_27 : decode cX3_parse 27 = .ok (.aload_n 0, 1) := by decide +kernel
theorem dX3_parse_28 : decode cX3_parse 28 = .ok (.iconst 0, 1) := by decide +kernel
theorem dX3_parse_29 : decode cX3_parse 29 = .ok (.putfield 45, 3) := by decide +kernel
theorem dX3_parse_32 : decode cX3_parse 32 = .ok (.aload_n 0, 1) := by decide +kernel
theorem dX3_parse_33 : decode cX3_parse 33 = .ok (.iconst 0, 1) := by decide +kernel
theorem dX3_parse_34 : decode cX3_parse 34 = .ok (.putfield 35, 3) := by decide +kernel
theorem dX3_parse_37 : decode cX3_parse 37 = .ok (.aload_n 0, 1) := by decide +kernel
theorem dX3_parse_38 : decode cX3_parse 38 = .ok (.getfield 12, 3) := by decide +kernel
theorem dX3_parse_41 : decode cX3_parse 41 = .ok (.invokevirtual 51, 3) := by decide +kernel
theorem dX3_parse_44 : decode cX3_parse 44 = .ok (.iconst 0, 1) := by decide +kernel
theorem dX3_parse_45 : decode cX3_parse 45 = .ok (.istore_n 1, 1) := by decide +kernel
theorem dX3_parse_46 : decode cX3_parse 46 = .ok (.iload_n 1, 1) := by decide +kernel
theorem dX3_parse_47 : decode cX3_parse 47 = .ok (.sipush 160, 3) := by decide +kernel
theorem dX3_parse_50 : decode cX3_parse 50 = .ok (.if_icmp .gt 28, 3) := by decide +kernel
theorem dX3_parse_53 : decode cX3_parse 53 = .ok (.aload_n 0, 1) := by decide +kernel
theorem dX3_parse_54 : decode cX3_parse 54 = .ok (.getfield 35, 3) := by decide +kernel
theorem dX3_parse_57 : decode cX3_parse 57 = .ok (.iconst 5, 1) := by decide +kernel
theorem dX3_parse_58 : decode cX3_parse 58 = .ok (.if_icmp .eq 20, 3) := by decide +kernel
theorem dX3_parse_61 : decode cX3_parse 61 = .ok (.aload_n 0, 1) := by decide +kernel
theorem dX3_parse_62 : decode cX3_parse 62 = .ok (.getfield 12, 3) := by decide +kernel
theorem dX3_parse_65 : decode cX3_parse 65 = .ok (.invokevirtual 54, 3) := by decide +kernel
theorem dX3_parse_68 : decode cX3_parse 68 = .ok (.aload_n 0, 1) := by decide +kernel
theorem dX3_parse_69 : decode cX3_parse 69 = .ok (.invokevirtual 57, 3) := by decide +kernel
theorem dX3_parse_72 : decode cX3_parse 72 = .ok (.iinc 1 1, 3) := by decide +kernel
theorem dX3_parse_75 : decode cX3_parse 75 = .ok (.goto (-29), 3) := by decide +kernel
theorem dX3_parse_78 : decode cX3_parse 78 = .ok (.return_, 1) := by decide +kernel
theorem dX3_takeToken_0 : decode cX3_takeToken 0 = .ok (.aload_n 0, 1) := by decide +kernel
theorem dX3_takeToken_1 : decode cX3_takeToken 1 = .ok (.getfield 12, 3) := by decide +kernel
theorem dX3_takeToken_4 : decode cX3_takeToken 4 = .ok (.getfield 60, 3) := by decide +kernel
theorem dX3_takeToken_7 : decode cX3_takeToken 7 = .ok (.iconst 4, 1) := by decide +kernel
theorem dX3_takeToken_8 : decode cX3_takeToken 8 = .ok (.if_icmp .ne 11, 3) := by decide +kernel
theorem dX3_takeToken_11 : decode cX3_takeToken 11 = .ok (.aload_n 0, 1) := by decide +kernel
theorem dX3_takeToken_12 : decode cX3_takeToken 12 = .ok (.iconst 1, 1) := by decide +kernel
theorem dX3_takeToken_13 : decode cX3_takeToken 13 = .ok (.invokevirtual 63, 3) := by decide +kernel
theorem dX3_takeToken_16 : decode cX3_takeToken 16 = .ok (.goto 55, 3) := by decide +kernel
theorem dX3_takeToken_19 : decode cX3_takeToken 19 = .ok (.aload_n 0, 1) := by decide +kernel
theorem dX3_takeToken_20 : decode cX3_takeToken 20 = .ok (.getfield 35, 3) := by decide +kernel
theorem dX3_takeToken_23 : decode cX3_takeToken 23 = .ok (.iconst 4, 1) := by decide +kernel
theorem dX3_takeToken_24 : decode cX3_takeToken 24 = .ok (.if_icmp .ne 10, 3) := by decide +kernel
theorem dX3_takeToken_27 : decode cX3_takeToken 27 = .ok (.aload_n 0, 1) := by decide +kernel
theorem dX3_takeToken_28 : decode cX3_takeToken 28 = .ok (.invokevirtual 67, 3) := by decide +kernel
theorem dX3_takeToken_31 : decode cX3_takeToken 31 = .ok (.goto 40, 3) := by decide +kernel
theorem dX3_takeToken_34 : decode cX3_takeToken 34 = .ok (.aload_n 0, 1) := by decide +kernel
theorem dX3_takeToken_35 : decode cX3_takeToken 35 = .ok (.getfield 35, 3) := by decide +kernel
theorem dX3_takeToken_38 : decode cX3_takeToken 38 = .ok (.ifCond .eq 10, 3) := by decide +kernel
theorem dX3_takeToken_41 : decode cX3_takeToken 41 = .ok (.aload_n 0, 1) := by decide +kernel
theorem dX3_takeToken_42 : decode cX3_takeToken 42 = .ok (.invokevirtual 70, 3) := by decide +kernel
theorem dX3_takeToken_45 : decode cX3_takeToken 45 = .ok (.goto 26, 3) := by decide +kernel
theorem dX3_takeToken_48 : decode cX3_takeToken 48 = .ok (.aload_n 0, 1) := by decide +kernel
theorem dX3_takeToken_49 : decode cX3_takeToken 49 = .ok (.getfield 12, 3) := by decide +kernel
theorem dX3_takeToken_52 : decode cX3_takeToken 52 = .ok (.getfield 60, 3) := by decide +kernel
theorem dX3_takeToken_55 : decode cX3_takeToken 55 = .ok (.iconst 3, 1) := by decide +kernel
theorem dX3_takeToken_56 : decode cX3_takeToken 56 = .ok (.if_icmp .ne 11, 3) := by decide +kernel
theorem dX3_takeToken_59 : decode cX3_takeToken 59 = .ok (.aload_n 0, 1) := by decide +kernel
theorem dX3_takeToken_60 : decode cX3_takeToken 60 = .ok (.iconst 5, 1) := by decide +kernel
theorem dX3_takeToken_61 : decode cX3_takeToken 61 = .ok (.putfield 35, 3) := by decide +kernel
theorem dX3_takeToken_64 : decode cX3_takeToken 64 = .ok (.goto 7, 3) := by decide +kernel
theorem dX3_takeToken_67 : decode cX3_takeToken 67 = .ok (.aload_n 0, 1) := by decide +kernel
theorem dX3_takeToken_68 : decode cX3_takeToken 68 = .ok (.invokevirtual 73, 3) := by decide +kernel
theorem dX3_takeToken_71 : decode cX3_takeToken 71 = .ok (.return_, 1) := by decide +kernel
theorem dX3_takeWord_0 : decode cX3_takeWord 0 = .ok (.aload_n 0, 1) := by decide +kernel
theorem dX3_takeWord_1 : decode cX3_takeWord 1 = .ok (.invokevirtual 76, 3) := by decide +kernel
theorem dX3_takeWord_4 : decode cX3_takeWord 4 = .ok (.istore_n 1, 1) := by decide +kernel
theorem dX3_takeWord_5 : decode cX3_takeWord 5 = .ok (.iload_n 1, 1) := by decide +kernel
theorem dX3_takeWord_6 : decode cX3_takeWord 6 = .ok (.iconst 4, 1) := by decide +kernel
theorem dX3_takeWord_7 : decode cX3_takeWord 7 = .ok (.if_icmp .ne 28, 3) := by decide +kernel
theorem dX3_takeWord_10 : decode cX3_takeWord 10 = .ok (.aload_n 0, 1) := by decide +kernel
theorem dX3_takeWord_11 : decode cX3_takeWord 11 = .ok (.iconst 1, 1) := by decide +kernel
theorem dX3_takeWord_12 : decode cX3_takeWord 12 = .ok (.aload_n 0, 1) := by decide +kernel
theorem dX3_takeWord_13 : decode cX3_takeWord 13 = .ok (.getfield 21, 3) := by decide +kernel
theorem dX3_takeWord_16 : decode cX3_takeWord 16 = .ok (.getfield 80, 3) := by decide +kernel
theorem dX3_takeWord_19 : decode cX3_takeWord 19 = .ok (.iconst 5, 1) := by decide +kernel
theorem dX3_takeWord_20 : decode cX3_takeWord 20 = .ok (.if_icmp .lt 7, 3) := by decide +kernel
theorem dX3_takeWord_23 : decode cX3_takeWord 23 = .ok (.iconst 1, 1) := by decide +kernel
theorem dX3_takeWord_24 : decode cX3_takeWord 24 = .ok (.goto 4, 3) := by decide +kernel
theorem dX3_takeWord_27 : decode cX3_takeWord 27 = .ok (.iconst 0, 1) := by decide +kernel
theorem dX3_takeWord_28 : decode cX3_takeWord 28 = .ok (.iconst 5, 1) := by decide +kernel
theorem dX3_takeWord_29 : decode cX3_takeWord 29 = .ok (.invokevirtual 83, 3) := by decide +kernel
theorem dX3_takeWord_32 : decode cX3_takeWord 32 = .ok (.goto 64, 3) := by decide +kernel
theorem dX3_takeWord_35 : decode cX3_takeWord 35 = .ok (.iload_n 1, 1) := by decide +kernel
theorem dX3_takeWord_36 : decode cX3_takeWord 36 = .ok (.iconst 5, 1) := by decide +kernel
theorem dX3_takeWord_37 : decode cX3_takeWord 37 = .ok (.if_icmp .ne 21, 3) := by decide +kernel
theorem dX3_takeWord_40 : decode cX3_takeWord 40 = .ok (.aload_n 0, 1) := by decide +kernel
theorem dX3_takeWord_41 : decode cX3_takeWord 41 = .ok (.iconst 3, 1) := by decide +kernel
theorem dX3_takeWord_42 : decode cX3_takeWord 42 = .ok (.aload_n 0, 1) := by decide +kernel
theorem dX3_takeWord_43 : decode cX3_takeWord 43 = .ok (.getfield 41, 3) := by decide +kernel
theorem dX3_takeWord_46 : decode cX3_takeWord 46 = .ok (.iconst 4, 1) := by decide +kernel
theorem dX3_takeWord_47 : decode cX3_takeWord 47 = .ok (.invokevirtual 83, 3) := by decide +kernel
theorem dX3_takeWord_50 : decode cX3_takeWord 50 = .ok (.aload_n 0, 1) := by decide +kernel
theorem dX3_takeWord_51 : decode cX3_takeWord 51 = .ok (.iconst 1, 1) := by decide +kernel
theorem dX3_takeWord_52 : decode cX3_takeWord 52 = .ok (.putfield 41, 3) := by decide +kernel
theorem dX3_takeWord_55 : decode cX3_takeWord 55 = .ok (.goto 41, 3) := by decide +kernel
theorem dX3_takeWord_58 : decode cX3_takeWord 58 = .ok (.iload_n 1, 1) := by decide +kernel
theorem dX3_takeWord_59 : decode cX3_takeWord 59 = .ok (.invokestatic 87, 3) := by decide +kernel
theorem dX3_takeWord_62 : decode cX3_takeWord 62 = .ok (.ifCond .eq 29, 3) := by decide +kernel
theorem dX3_takeWord_65 : decode cX3_takeWord 65 = .ok (.aload_n 0, 1) := by decide +kernel
theorem dX3_takeWord_66 : decode cX3_takeWord 66 = .ok (.iconst 4, 1) := by decide +kernel
theorem dX3_takeWord_67 : decode cX3_takeWord 67 = .ok (.aload_n 0, 1) := by decide +kernel
theorem dX3_takeWord_68 : decode cX3_takeWord 68 = .ok (.getfield 45, 3) := by decide +kernel
theorem dX3_takeWord_71 : decode cX3_takeWord 71 = .ok (.iconst 4, 1) := by decide +kernel
theorem dX3_takeWord_72 : decode cX3_takeWord 72 = .ok (.invokevirtual 83, 3) := by decide +kernel
theorem dX3_takeWord_75 : decode cX3_takeWord 75 = .ok (.aload_n 0, 1) := by decide +kernel
theorem dX3_takeWord_76 : decode cX3_takeWord 76 = .ok (.iconst 1, 1) := by decide +kernel
theorem dX3_takeWord_77 : decode cX3_takeWord 77 = .ok (.putfield 45, 3) := by decide +kernel
theorem dX3_takeWord_80 : decode cX3_takeWord 80 = .ok (.aload_n 0, 1) := by decide +kernel
theorem dX3_takeWord_81 : decode cX3_takeWord 81 = .ok (.getfield 21, 3) := by decide +kernel
theorem dX3_takeWord_84 : decode cX3_takeWord 84 = .ok (.iload_n 1, 1) := by decide +kernel
theorem dX3_takeWord_85 : decode cX3_takeWord 85 = .ok (.putfield 91, 3) := by decide +kernel
theorem dX3_takeWord_88 : decode cX3_takeWord 88 = .ok (.goto 8, 3) := by decide +kernel
theorem dX3_takeWord_91 : decode cX3_takeWord 91 = .ok (.aload_n 0, 1) := by decide +kernel
theorem dX3_takeWord_92 : decode cX3_takeWord 92 = .ok (.iconst 2, 1) := by decide +kernel
theorem dX3_takeWord_93 : decode cX3_takeWord 93 = .ok (.invokevirtual 63, 3) := by decide +kernel
theorem dX3_takeWord_96 : decode cX3_takeWord 96 = .ok (.return_, 1) := by decide +kernel
theorem dX3_begin_0 : decode cX3_begin 0 = .ok (.iload_n 2, 1) := by decide +kernel
theorem dX3_begin_1 : decode cX3_begin 1 = .ok (.ifCond .eq 11, 3) := by decide +kernel
theorem dX3_begin_4 : decode cX3_begin 4 = .ok (.aload_n 0, 1) := by decide +kernel
theorem dX3_begin_5 : decode cX3_begin 5 = .ok (.iload_n 3, 1) := by decide +kernel
theorem dX3_begin_6 : decode cX3_begin 6 = .ok (.invokevirtual 63, 3) := by decide +kernel
theorem dX3_begin_9 : decode cX3_begin 9 = .ok (.goto 8, 3) := by decide +kernel
theorem dX3_begin_12 : decode cX3_begin 12 = .ok (.aload_n 0, 1) := by decide +kernel
theorem dX3_begin_13 : decode cX3_begin 13 = .ok (.iload_n 1, 1) := by decide +kernel
theorem dX3_begin_14 : decode cX3_begin 14 = .ok (.putfield 35, 3) := by decide +kernel
theorem dX3_begin_17 : decode cX3_begin 17 = .ok (.return_, 1) := by decide +kernel
theorem dX3_wordOfLine_0 : decode cX3_wordOfLine 0 = .ok (.aload_n 0, 1) := by decide +kernel
theorem dX3_wordOfLine_1 : decode cX3_wordOfLine 1 = .ok (.getfield 12, 3) := by decide +kernel
theorem dX3_wordOfLine_4 : decode cX3_wordOfLine 4 = .ok (.ldc 94, 2) := by decide +kernel
theorem dX3_wordOfLine_6 : decode cX3_wordOfLine 6 = .ok (.invokevirtual 96, 3) := by decide +kernel
theorem dX3_wordOfLine_9 : decode cX3_wordOfLine 9 = .ok (.ifCond .eq 5, 3) := by decide +kernel
theorem dX3_wordOfLine_12 : decode cX3_wordOfLine 12 = .ok (.iconst 4, 1) := by decide +kernel
theorem dX3_wordOfLine_13 : decode cX3_wordOfLine 13 = .ok (.ireturn, 1) := by decide +kernel
theorem dX3_wordOfLine_14 : decode cX3_wordOfLine 14 = .ok (.aload_n 0, 1) := by decide +kernel
theorem dX3_wordOfLine_15 : decode cX3_wordOfLine 15 = .ok (.getfield 12, 3) := by decide +kernel
theorem dX3_wordOfLine_18 : decode cX3_wordOfLine 18 = .ok (.ldc 100, 2) := by decide +kernel
theorem dX3_wordOfLine_20 : decode cX3_wordOfLine 20 = .ok (.invokevirtual 96, 3) := by decide +kernel
theorem dX3_wordOfLine_23 : decode cX3_wordOfLine 23 = .ok (.ifCond .eq 5, 3) := by decide +kernel
theorem dX3_wordOfLine_26 : decode cX3_wordOfLine 26 = .ok (.iconst 5, 1) := by decide +kernel
theorem dX3_wordOfLine_27 : decode cX3_wordOfLine 27 = .ok (.ireturn, 1) := by decide +kernel
theorem dX3_wordOfLine_28 : decode cX3_wordOfLine 28 = .ok (.aload_n 0, 1) := by decide +kernel
theorem dX3_wordOfLine_29 : decode cX3_wordOfLine 29 = .ok (.getfield 12, 3) := by decide +kernel
theorem dX3_wordOfLine_32 : decode cX3_wordOfLine 32 = .ok (.ldc 102, 2) := by decide +kernel
theorem dX3_wordOfLine_34 : decode cX3_wordOfLine 34 = .ok (.invokevirtual 96, 3) := by decide +kernel
theorem dX3_wordOfLine_37 : decode cX3_wordOfLine 37 = .ok (.ifCond .eq 5, 3) := by decide +kernel
theorem dX3_wordOfLine_40 : decode cX3_wordOfLine 40 = .ok (.iconst 0, 1) := by decide +kernel
theorem dX3_wordOfLine_41 : decode cX3_wordOfLine 41 = .ok (.ireturn, 1) := by decide +kernel
theorem dX3_wordOfLine_42 : decode cX3_wordOfLine 42 = .ok (.aload_n 0, 1) := by decide +kernel
theorem dX3_wordOfLine_43 : decode cX3_wordOfLine 43 = .ok (.getfield 12, 3) := by decide +kernel
theorem dX3_wordOfLine_46 : decode cX3_wordOfLine 46 = .ok (.ldc 104, 2) := by decide +kernel
theorem dX3_wordOfLine_48 : decode cX3_wordOfLine 48 = .ok (.invokevirtual 96, 3) := by decide +kernel
theorem dX3_wordOfLine_51 : decode cX3_wordOfLine 51 = .ok (.ifCond .eq 5, 3) := by decide +kernel
theorem dX3_wordOfLine_54 : decode cX3_wordOfLine 54 = .ok (.iconst 1, 1) := by decide +kernel
theorem dX3_wordOfLine_55 : decode cX3_wordOfLine 55 = .ok (.ireturn, 1) := by decide +kernel
theorem dX3_wordOfLine_56 : decode cX3_wordOfLine 56 = .ok (.aload_n 0, 1) := by decide +kernel
theorem dX3_wordOfLine_57 : decode cX3_wordOfLine 57 = .ok (.getfield 12, 3) := by decide +kernel
theorem dX3_wordOfLine_60 : decode cX3_wordOfLine 60 = .ok (.ldc 106, 2) := by decide +kernel
theorem dX3_wordOfLine_62 : decode cX3_wordOfLine 62 = .ok (.invokevirtual 96, 3) := by decide +kernel
theorem dX3_wordOfLine_65 : decode cX3_wordOfLine 65 = .ok (.ifCond .eq 5, 3) := by decide +kernel
theorem dX3_wordOfLine_68 : decode cX3_wordOfLine 68 = .ok (.iconst 2, 1) := by decide +kernel
theorem dX3_wordOfLine_69 : decode cX3_wordOfLine 69 = .ok (.ireturn, 1) := by decide +kernel
theorem dX3_wordOfLine_70 : decode cX3_wordOfLine 70 = .ok (.aload_n 0, 1) := by decide +kernel
theorem dX3_wordOfLine_71 : decode cX3_wordOfLine 71 = .ok (.getfield 12, 3) := by decide +kernel
theorem dX3_wordOfLine_74 : decode cX3_wordOfLine 74 = .ok (.ldc 108, 2) := by decide +kernel
theorem dX3_wordOfLine_76 : decode cX3_wordOfLine 76 = .ok (.invokevirtual 96, 3) := by decide +kernel
theorem dX3_wordOfLine_79 : decode cX3_wordOfLine 79 = .ok (.ifCond .eq 7, 3) := by decide +kernel
theorem dX3_wordOfLine_82 : decode cX3_wordOfLine 82 = .ok (.iconst 3, 1) := by decide +kernel
theorem dX3_wordOfLine_83 : decode cX3_wordOfLine 83 = .ok (.goto 4, 3) := by decide +kernel
theorem dX3_wordOfLine_86 : decode cX3_wordOfLine 86 = .ok (.iconst (-1), 1) := by decide +kernel
theorem dX3_wordOfLine_87 : decode cX3_wordOfLine 87 = .ok (.ireturn, 1) := by decide +kernel
theorem dX3_takeNumber_0 : decode cX3_takeNumber 0 = .ok (.aload_n 0, 1) := by decide +kernel
theorem dX3_takeNumber_1 : decode cX3_takeNumber 1 = .ok (.getfield 12, 3) := by decide +kernel
theorem dX3_takeNumber_4 : decode cX3_takeNumber 4 = .ok (.getfield 60, 3) := by decide +kernel
theorem dX3_takeNumber_7 : decode cX3_takeNumber 7 = .ok (.iconst 1, 1) := by decide +kernel
theorem dX3_takeNumber_8 : decode cX3_takeNumber 8 = .ok (.if_icmp .eq 11, 3) := by decide +kernel
theorem dX3_takeNumber_11 : decode cX3_takeNumber 11 = .ok (.aload_n 0, 1) := by decide +kernel
theorem dX3_takeNumber_12 : decode cX3_takeNumber 12 = .ok (.iconst 2, 1) := by decide +kernel
theorem dX3_takeNumber_13 : decode cX3_takeNumber 13 = .ok (.invokevirtual 63, 3) := by decide +kernel
theorem dX3_takeNumber_16 : decode cX3_takeNumber 16 = .ok (.goto 106, 3) := by decide +kernel
theorem dX3_takeNumber_19 : decode cX3_takeNumber 19 = .ok (.aload_n 0, 1) := by decide +kernel
theorem dX3_takeNumber_20 : decode cX3_takeNumber 20 = .ok (.aload_n 0, 1) := by decide +kernel
theorem dX3_takeNumber_21 : decode cX3_takeNumber 21 = .ok (.getfield 12, 3) := by decide +kernel
theorem dX3_takeNumber_24 : decode cX3_takeNumber 24 = .ok (.getfield 110, 3) := by decide +kernel
theorem dX3_takeNumber_27 : decode cX3_takeNumber 27 = .ok (.invokevirtual 113, 3) := by decide +kernel
theorem dX3_takeNumber_30 : decode cX3_takeNumber 30 = .ok (.ifCond .ne 11, 3) := by decide +kernel
theorem dX3_takeNumber_33 : decode cX3_takeNumber 33 = .ok (.aload_n 0, 1) := by decide +kernel
theorem dX3_takeNumber_34 : decode cX3_takeNumber 34 = .ok (.iconst 3, 1) := by decide +kernel
theorem dX3_takeNumber_35 : decode cX3_takeNumber 35 = .ok (.invokevirtual 63, 3) := by decide +kernel
theorem dX3_takeNumber_38 : decode cX3_takeNumber 38 = .ok (.goto 84, 3) := by decide +kernel
theorem dX3_takeNumber_41 : decode cX3_takeNumber 41 = .ok (.aload_n 0, 1) := by decide +kernel
theorem dX3_takeNumber_42 : decode cX3_takeNumber 42 = .ok (.getfield 35, 3) := by decide +kernel
theorem dX3_takeNumber_45 : decode cX3_takeNumber 45 = .ok (.iconst 1, 1) := by decide +kernel
theorem dX3_takeNumber_46 : decode cX3_takeNumber 46 = .ok (.if_icmp .ne 22, 3) := by decide +kernel
theorem dX3_takeNumber_49 : decode cX3_takeNumber 49 = .ok (.aload_n 0, 1) := by decide +kernel
theorem dX3_takeNumber_50 : decode cX3_takeNumber 50 = .ok (.aload_n 0, 1) := by decide +kernel
theorem dX3_takeNumber_51 : decode cX3_takeNumber 51 = .ok (.getfield 12, 3) := by decide +kernel
theorem dX3_takeNumber_54 : decode cX3_takeNumber 54 = .ok (.getfield 110, 3) := by decide +kernel
theorem dX3_takeNumber_57 : decode cX3_takeNumber 57 = .ok (.putfield 38, 3) := by decide +kernel
theorem dX3_takeNumber_60 : decode cX3_takeNumber 60 = .ok (.aload_n 0, 1) := by decide +kernel
theorem dX3_takeNumber_61 : decode cX3_takeNumber 61 = .ok (.iconst 2, 1) := by decide +kernel
theorem dX3_takeNumber_62 : decode cX3_takeNumber 62 = .ok (.putfield 35, 3) := by decide +kernel
theorem dX3_takeNumber_65 : decode cX3_takeNumber 65 = .ok (.goto 57, 3) := by decide +kernel
theorem dX3_takeNumber_68 : decode cX3_takeNumber 68 = .ok (.aload_n 0, 1) := by decide +kernel
theorem dX3_takeNumber_69 : decode cX3_takeNumber 69 = .ok (.getfield 35, 3) := by decide +kernel
theorem dX3_takeNumber_72 : decode cX3_takeNumber 72 = .ok (.iconst 2, 1) := by decide +kernel
theorem dX3_takeNumber_73 : decode cX3_takeNumber 73 = .ok (.if_icmp .ne 30, 3) := by decide +kernel
theorem dX3_takeNumber_76 : decode cX3_takeNumber 76 = .ok (.aload_n 0, 1) := by decide +kernel
theorem dX3_takeNumber_77 : decode cX3_takeNumber 77 = .ok (.getfield 21, 3) := by decide +kernel
theorem dX3_takeNumber_80 : decode cX3_takeNumber 80 = .ok (.aload_n 0, 1) := by decide +kernel
theorem dX3_takeNumber_81 : decode cX3_takeNumber 81 = .ok (.getfield 38, 3) := by decide +kernel
theorem dX3_takeNumber_84 : decode cX3_takeNumber 84 = .ok (.aload_n 0, 1) := by decide +kernel
theorem dX3_takeNumber_85 : decode cX3_takeNumber 85 = .ok (.getfield 12, 3) := by decide +kernel
theorem dX3_takeNumber_88 : decode cX3_takeNumber 88 = .ok (.getfield 110, 3) := by decide +kernel
theorem dX3_takeNumber_91 : decode cX3_takeNumber 91 = .ok (.invokevirtual 116, 3) := by decide +kernel
theorem dX3_takeNumber_94 : decode cX3_takeNumber 94 = .ok (.pop, 1) := by decide +kernel
theorem dX3_takeNumber_95 : decode cX3_takeNumber 95 = .ok (.aload_n 0, 1) := by decide +kernel
theorem dX3_takeNumber_96 : decode cX3_takeNumber 96 = .ok (.iconst 4, 1) := by decide +kernel
theorem dX3_takeNumber_97 : decode cX3_takeNumber 97 = .ok (.putfield 35, 3) := by decide +kernel
theorem dX3_takeNumber_100 : decode cX3_takeNumber 100 = .ok (.goto 22, 3) := by decide +kernel
theorem dX3_takeNumber_103 : decode cX3_takeNumber 103 = .ok (.aload_n 0, 1) := by decide +kernel
theorem dX3_takeNumber_104 : decode cX3_takeNumber 104 = .ok (.getfield 21, 3) := by decide +kernel
theorem dX3_takeNumber_107 : decode cX3_takeNumber 107 = .ok (.aload_n 0, 1) := by decide +kernel
theorem dX3_takeNumber_108 : decode cX3_takeNumber 108 = .ok (.getfield 12, 3) := by decide +kernel
theorem dX3_takeNumber_111 : decode cX3_takeNumber 111 = .ok (.getfield 110, 3) := by decide +kernel
theorem dX3_takeNumber_114 : decode cX3_takeNumber 114 = .ok (.putfield 120, 3) := by decide +kernel
theorem dX3_takeNumber_117 : decode cX3_takeNumber 117 = .ok (.aload_n 0, 1) := by decide +kernel
theorem dX3_takeNumber_118 : decode cX3_takeNumber 118 = .ok (.iconst 4, 1) := by decide +kernel
theorem dX3_takeNumber_119 : decode cX3_takeNumber 119 = .ok (.putfield 35, 3) := by decide +kernel
theorem dX3_takeNumber_122 : decode cX3_takeNumber 122 = .ok (.return_, 1) := by decide +kernel
theorem dX3_isInBounds_0 : decode cX3_isInBounds 0 = .ok (.aload_n 0, 1) := by decide +kernel
theorem dX3_isInBounds_1 : decode cX3_isInBounds 1 = .ok (.getfield 35, 3) := by decide +kernel
theorem dX3_isInBounds_4 : decode cX3_isInBounds 4 = .ok (.iconst 3, 1) := by decide +kernel
theorem dX3_isInBounds_5 : decode cX3_isInBounds 5 = .ok (.if_icmp .ne 8, 3) := by decide +kernel
theorem dX3_isInBounds_8 : decode cX3_isInBounds 8 = .ok (.iload_n 1, 1) := by decide +kernel
theorem dX3_isInBounds_9 : decode cX3_isInBounds 9 = .ok (.invokestatic 123, 3) := by decide +kernel
theorem dX3_isInBounds_12 : decode cX3_isInBounds 12 = .ok (.ireturn, 1) := by decide +kernel
theorem dX3_isInBounds_13 : decode cX3_isInBounds 13 = .ok (.iload_n 1, 1) := by decide +kernel
theorem dX3_isInBounds_14 : decode cX3_isInBounds 14 = .ok (.iconst 1, 1) := by decide +kernel
theorem dX3_isInBounds_15 : decode cX3_isInBounds 15 = .ok (.aload_n 0, 1) := by decide +kernel
theorem dX3_isInBounds_16 : decode cX3_isInBounds 16 = .ok (.getfield 35, 3) := by decide +kernel
theorem dX3_isInBounds_19 : decode cX3_isInBounds 19 = .ok (.iconst 1, 1) := by decide +kernel
theorem dX3_isInBounds_20 : decode cX3_isInBounds 20 = .ok (.if_icmp .ne 8, 3) := by decide +kernel
theorem dX3_isInBounds_23 : decode cX3_isInBounds 23 = .ok (.bipush 9, 2) := by decide +kernel
theorem dX3_isInBounds_25 : decode cX3_isInBounds 25 = .ok (.goto 5, 3) := by decide +kernel
theorem dX3_isInBounds_28 : decode cX3_isInBounds 28 = .ok (.bipush 99, 2) := by decide +kernel
theorem dX3_isInBounds_30 : decode cX3_isInBounds 30 = .ok (.invokestatic 126, 3) := by decide +kernel
theorem dX3_isInBounds_33 : decode cX3_isInBounds 33 = .ok (.ireturn, 1) := by decide +kernel
theorem dX3_takeSemicolon_0 : decode cX3_takeSemicolon 0 = .ok (.aload_n 0, 1) := by decide +kernel
theorem dX3_takeSemicolon_1 : decode cX3_takeSemicolon 1 = .ok (.getfield 12, 3) := by decide +kernel
theorem dX3_takeSemicolon_4 : decode cX3_takeSemicolon 4 = .ok (.getfield 60, 3) := by decide +kernel
theorem dX3_takeSemicolon_7 : decode cX3_takeSemicolon 7 = .ok (.iconst 2, 1) := by decide +kernel
theorem dX3_takeSemicolon_8 : decode cX3_takeSemicolon 8 = .ok (.if_icmp .eq 9, 3) := by decide +kernel
theorem dX3_takeSemicolon_11 : decode cX3_takeSemicolon 11 = .ok (.aload_n 0, 1) := by decide +kernel
theorem dX3_takeSemicolon_12 : decode cX3_takeSemicolon 12 = .ok (.iconst 2, 1) := by decide +kernel
theorem dX3_takeSemicolon_13 : decode cX3_takeSemicolon 13 = .ok (.invokevirtual 63, 3) := by decide +kernel
theorem dX3_takeSemicolon_16 : decode cX3_takeSemicolon 16 = .ok (.return_, 1) := by decide +kernel
theorem dX3_takeSemicolon_17 : decode cX3_takeSemicolon 17 = .ok (.aload_n 0, 1) := by decide +kernel
theorem dX3_takeSemicolon_18 : decode cX3_takeSemicolon 18 = .ok (.dup, 1) := by decide +kernel
theorem dX3_takeSemicolon_19 : decode cX3_takeSemicolon 19 = .ok (.getfield 25, 3) := by decide +kernel
theorem dX3_takeSemicolon_22 : decode cX3_takeSemicolon 22 = .ok (.iconst 1, 1) := by decide +kernel
theorem dX3_takeSemicolon_23 : decode cX3_takeSemicolon 23 = .ok (.iadd, 1) := by decide +kernel
theorem dX3_takeSemicolon_24 : decode cX3_takeSemicolon 24 = .ok (.putfield 25, 3) := by decide +kernel
theorem dX3_takeSemicolon_27 : decode cX3_takeSemicolon 27 = .ok (.aload_n 0, 1) := by decide +kernel
theorem dX3_takeSemicolon_28 : decode cX3_takeSemicolon 28 = .ok (.iconst 0, 1) := by decide +kernel
theorem dX3_takeSemicolon_29 : decode cX3_takeSemicolon 29 = .ok (.putfield 35, 3) := by decide +kernel
theorem dX3_takeSemicolon_32 : decode cX3_takeSemicolon 32 = .ok (.return_, 1) := by decide +kernel
theorem dX3_refuse_0 : decode cX3_refuse 0 = .ok (.aload_n 0, 1) := by decide +kernel
theorem dX3_refuse_1 : decode cX3_refuse 1 = .ok (.iload_n 1, 1) := by decide +kernel
theorem dX3_refuse_2 : decode cX3_refuse 2 = .ok (.putfield 29, 3) := by decide +kernel
theorem dX3_refuse_5 : decode cX3_refuse 5 = .ok (.aload_n 0, 1) := by decide +kernel
theorem dX3_refuse_6 : decode cX3_refuse 6 = .ok (.aload_n 0, 1) := by decide +kernel
theorem dX3_refuse_7 : decode cX3_refuse 7 = .ok (.getfield 12, 3) := by decide +kernel
theorem dX3_refuse_10 : decode cX3_refuse 10 = .ok (.getfield 130, 3) := by decide +kernel
theorem dX3_refuse_13 : decode cX3_refuse 13 = .ok (.putfield 32, 3) := by decide +kernel
theorem dX3_refuse_16 : decode cX3_refuse 16 = .ok (.aload_n 0, 1) := by decide +kernel
theorem dX3_refuse_17 : decode cX3_refuse 17 = .ok (.iconst 5, 1) := by decide +kernel
theorem dX3_refuse_18 : decode cX3_refuse 18 = .ok (.putfield 35, 3) := by decide +kernel
theorem dX3_refuse_21 : decode cX3_refuse 21 = .ok (.return_, 1) := by decide +kernel
theorem dX4_init_0 : decode cX4_init 0 = .ok (.aload_n 0, 1) := by decide +kernel
theorem dX4_init_1 : decode cX4_init 1 = .ok (.invokespecial 3, 3) := by decide +kernel
theorem dX4_init_4 : decode cX4_init 4 = .ok (.aload_n 0, 1) := by decide +kernel
theorem dX4_init_5 : decode cX4_init 5 = .ok (.iconst (-1), 1) := by decide +kernel
theorem dX4_init_6 : decode cX4_init 6 = .ok (.putfield 9, 3) := by decide +kernel
theorem dX4_init_9 : decode cX4_init 9 = .ok (.aload_n 0, 1) := by decide +kernel
theorem dX4_init_10 : decode cX4_init 10 = .ok (.iconst 0, 1) := by decide +kernel
theorem dX4_init_11 : decode cX4_init 11 = .ok (.putfield 15, 3) := by decide +kernel
theorem dX4_init_14 : decode cX4_init 14 = .ok (.aload_n 0, 1) := by decide +kernel
theorem dX4_init_15 : decode cX4_init 15 = .ok (.bipush 40, 2) := by decide +kernel
theorem dX4_init_17 : decode cX4_init 17 = .ok (.newarray .int, 2) := by decide +kernel
theorem dX4_init_19 : decode cX4_init 19 = .ok (.putfield 18, 3) := by decide +kernel
theorem dX4_init_22 : decode cX4_init 22 = .ok (.return_, 1) := by decide +kernel
theorem dX4_renew_0 : decode cX4_renew 0 = .ok (.aload_n 0, 1) := by decide +kernel
theorem dX4_renew_1 : decode cX4_renew 1 = .ok (.iload_n 1, 1) := by decide +kernel
theorem dX4_renew_2 : decode cX4_renew 2 = .ok (.putfield 15, 3) := by decide +kernel
theorem dX4_renew_5 : decode cX4_renew 5 = .ok (.aload_n 0, 1) := by decide +kernel
theorem dX4_renew_6 : decode cX4_renew 6 = .ok (.iload_n 2, 1) := by decide +kernel
theorem dX4_renew_7 : decode cX4_renew 7 = .ok (.bipush 40, 2) := by decide +kernel
theorem dX4_renew_9 : decode cX4_renew 9 = .ok (.invokestatic 22, 3) := by decide +kernel
theorem dX4_renew_12 : decode cX4_renew 12 = .ok (.putfield 9, 3) := by decide +kernel
theorem dX4_renew_15 : decode cX4_renew 15 = .ok (.iconst 0, 1) := by decide +kernel
theorem dX4_renew_16 : decode cX4_renew 16 = .ok (.istore_n 3, 1) := by decide +kernel
theorem dX4_renew_17 : decode cX4_renew 17 = .ok (.iload_n 3, 1) := by decide +kernel
theorem dX4_renew_18 : decode cX4_renew 18 = .ok (.bipush 40, 2) := by decide +kernel
theorem dX4_renew_20 : decode cX4_renew 20 = .ok (.if_icmp .ge 16, 3) := by decide +kernel
theorem dX4_renew_23 : decode cX4_renew 23 = .ok (.aload_n 0, 1) := by decide +kernel
theorem dX4_renew_24 : decode cX4_renew 24 = .ok (.getfield 18, 3) := by decide +kernel
theorem dX4_renew_27 : decode cX4_renew 27 = .ok (.iload_n 3, 1) := by decide +kernel
theorem dX4_renew_28 : decode cX4_renew 28 = .ok (.iconst 0, 1) := by decide +kernel
theorem dX4_renew_29 : decode cX4_renew 29 = .ok (.iastore, 1) := by decide +kernel
theorem dX4_renew_30 : decode cX4_renew 30 = .ok (.iinc 3 1, 3) := by decide +kernel
theorem dX4_renew_33 : decode cX4_renew 33 = .ok (.goto (-16), 3) := by decide +kernel
theorem dX4_renew_36 : decode cX4_renew 36 = .ok (.return_, 1) := by decide +kernel
theorem dX4_flawAt_0 : decode cX4_flawAt 0 = .ok (.aload_n 0, 1) := by decide +kernel
theorem dX4_flawAt_1 : decode cX4_flawAt 1 = .ok (.getfield 9, 3) := by decide +kernel
theorem dX4_flawAt_4 : decode cX4_flawAt 4 = .ok (.ifCond .ge 5, 3) := by decide +kernel
theorem dX4_flawAt_7 : decode cX4_flawAt 7 = .ok (.iconst 1, 1) := by decide +kernel
theorem dX4_flawAt_8 : decode cX4_flawAt 8 = .ok (.ireturn, 1) := by decide +kernel
theorem dX4_flawAt_9 : decode cX4_flawAt 9 = .ok (.iload_n 1, 1) := by decide +kernel
theorem dX4_flawAt_10 : decode cX4_flawAt 10 = .ok (.ifCond .lt 15, 3) := by decide +kernel
theorem dX4_flawAt_13 : decode cX4_flawAt 13 = .ok (.iload_n 1, 1) := by decide +kernel
theorem dX4_flawAt_14 : decode cX4_flawAt 14 = .ok (.aload_n 0, 1) := by decide +kernel
theorem dX4_flawAt_15 : decode cX4_flawAt 15 = .ok (.getfield 9, 3) := by decide +kernel
theorem dX4_flawAt_18 : decode cX4_flawAt 18 = .ok (.if_icmp .ge 7, 3) := by decide +kernel
theorem dX4_flawAt_21 : decode cX4_flawAt 21 = .ok (.iconst 0, 1) := by decide +kernel
theorem dX4_flawAt_22 : decode cX4_flawAt 22 = .ok (.goto 4, 3) := by decide +kernel
theorem dX4_flawAt_25 : decode cX4_flawAt 25 = .ok (.iconst 2, 1) := by decide +kernel
theorem dX4_flawAt_26 : decode cX4_flawAt 26 = .ok (.ireturn, 1) := by decide +kernel
theorem dX4_pairFlaw_0 : decode cX4_pairFlaw 0 = .ok (.aload_n 0, 1) := by decide +kernel
theorem dX4_pairFlaw_1 : decode cX4_pairFlaw 1 = .ok (.getfield 9, 3) := by decide +kernel
theorem dX4_pairFlaw_4 : decode cX4_pairFlaw 4 = .ok (.ifCond .lt 13, 3) := by decide +kernel
theorem dX4_pairFlaw_7 : decode cX4_pairFlaw 7 = .ok (.aload_n 0, 1) := by decide +kernel
theorem dX4_pairFlaw_8 : decode cX4_pairFlaw 8 = .ok (.getfield 15, 3) := by decide +kernel
theorem dX4_pairFlaw_11 : decode cX4_pairFlaw 11 = .ok (.iload_n 1, 1) := by decide +kernel
theorem dX4_pairFlaw_12 : decode cX4_pairFlaw 12 = .ok (.if_icmp .eq 5, 3) := by decide +kernel
theorem dX4_pairFlaw_15 : decode cX4_pairFlaw 15 = .ok (.iconst 3, 1) := by decide +kernel
theorem dX4_pairFlaw_16 : decode cX4_pairFlaw 16 = .ok (.ireturn, 1) := by decide +kernel
theorem dX4_pairFlaw_17 : decode cX4_pairFlaw 17 = .ok (.aload_n 0, 1) := by decide +kernel
theorem dX4_pairFlaw_18 : decode cX4_pairFlaw 18 = .ok (.iload_n 2, 1) := by decide +kernel
theorem dX4_pairFlaw_19 : decode cX4_pairFlaw 19 = .ok (.invokevirtual 28, 3) := by decide +kernel
theorem dX4_pairFlaw_22 : decode cX4_pairFlaw 22 = .ok (.istore_n 3, 1) := by decide +kernel
theorem dX4_pairFlaw_23 : decode cX4_pairFlaw 23 = .ok (.iload_n 3, 1) := by decide +kernel
theorem dX4_pairFlaw_24 : decode cX4_pairFlaw 24 = .ok (.ifCond .eq 7, 3) := by decide +kernel
theorem dX4_pairFlaw_27 : decode cX4_pairFlaw 27 = .ok (.iload_n 3, 1) := by decide +kernel
theorem dX4_pairFlaw_28 : decode cX4_pairFlaw 28 = .ok (.goto 10, 3) := by decide +kernel
theorem dX4_pairFlaw_31 : decode cX4_pairFlaw 31 = .ok (.aload_n 0, 1) := by decide +kernel
theorem dX4_pairFlaw_32 : decode cX4_pairFlaw 32 = .ok (.iload_n 2, 1) := by decide +kernel
theorem dX4_pairFlaw_33 : decode cX4_pairFlaw 33 = .ok (.iconst 1, 1) := by decide +kernel
theorem dX4_pairFlaw_34 : decode cX4_pairFlaw 34 = .ok (.iadd, 1) := by decide +kernel
theorem dX4_pairFlaw_35 : decode cX4_pairFlaw 35 = .ok (.invokevirtual 28, 3) := by decide +kernel
theorem dX4_pairFlaw_38 : decode cX4_pairFlaw 38 = .ok (.ireturn, 1) := by decide +kernel
theorem dX4_cell_0 : decode cX4_cell 0 = .ok (.aload_n 0, 1) := by decide +kernel
theorem dX4_cell_1 : decode cX4_cell 1 = .ok (.iload_n 1, 1) := by decide +kernel
theorem dX4_cell_2 : decode cX4_cell 2 = .ok (.invokevirtual 28, 3) := by decide +kernel
theorem dX4_cell_5 : decode cX4_cell 5 = .ok (.ifCond .ne 12, 3) := by decide +kernel
theorem dX4_cell_8 : decode cX4_cell 8 = .ok (.aload_n 0, 1) := by decide +kernel
theorem dX4_cell_9 : decode cX4_cell 9 = .ok (.getfield 18, 3) := by decide +kernel
theorem dX4_cell_12 : decode cX4_cell 12 = .ok (.iload_n 1, 1) := by decide +kernel
theorem dX4_cell_13 : decode cX4_cell 13 = .ok (.iaload, 1) := by decide +kernel
theorem dX4_cell_14 : decode cX4_cell 14 = .ok (.goto 4, 3) := by decide +kernel
theorem dX4_cell_17 : decode cX4_cell 17 = .ok (.iconst 0, 1) := by decide +kernel
theorem dX4_cell_18 : decode cX4_cell 18 = .ok (.ireturn, 1) := by decide +kernel
theorem dX4_put_0 : decode cX4_put 0 = .ok (.aload_n 0, 1) := by decide +kernel
theorem dX4_put_1 : decode cX4_put 1 = .ok (.iload_n 1, 1) := by decide +kernel
theorem dX4_put_2 : decode cX4_put 2 = .ok (.invokevirtual 28, 3) := by decide +kernel
theorem dX4_put_5 : decode cX4_put 5 = .ok (.ifCond .eq 4, 3) := by decide +kernel
theorem dX4_put_8 : decode cX4_put 8 = .ok (.return_, 1) := by decide +kernel
theorem dX4_put_9 : decode cX4_put 9 = .ok (.aload_n 0, 1) := by decide +kernel
theorem dX4_put_10 : decode cX4_put 10 = .ok (.getfield 15, 3) := by decide +kernel
theorem dX4_put_13 : decode cX4_put 13 = .ok (.ifCond .ne 14, 3) := by decide +kernel
theorem dX4_put_16 : decode cX4_put 16 = .ok (.aload_n 0, 1) := by decide +kernel
theorem dX4_put_17 : decode cX4_put 17 = .ok (.getfield 18, 3) := by decide +kernel
theorem dX4_put_20 : decode cX4_put 20 = .ok (.iload_n 1, 1) := by decide +kernel
theorem dX4_put_21 : decode cX4_put 21 = .ok (.iload_n 2, 1) := by decide +kernel
theorem dX4_put_22 : decode cX4_put 22 = .ok (.i2b, 1) := by decide +kernel
theorem dX4_put_23 : decode cX4_put 23 = .ok (.iastore, 1) := by decide +kernel
theorem dX4_put_24 : decode cX4_put 24 = .ok (.goto 29, 3) := by decide +kernel
theorem dX4_put_27 : decode cX4_put 27 = .ok (.aload_n 0, 1) := by decide +kernel
theorem dX4_put_28 : decode cX4_put 28 = .ok (.getfield 15, 3) := by decide +kernel
theorem dX4_put_31 : decode cX4_put 31 = .ok (.iconst 1, 1) := by decide +kernel
theorem dX4_put_32 : decode cX4_put 32 = .ok (.if_icmp .ne 14, 3) := by decide +kernel
theorem dX4_put_35 : decode cX4_put 35 = .ok (.aload_n 0, 1) := by decide +kernel
theorem dX4_put_36 : decode cX4_put 36 = .ok (.getfield 18, 3) := by decide +kernel
theorem dX4_put_39 : decode cX4_put 39 = .ok (.iload_n 1, 1) := by decide +kernel
theorem dX4_put_40 : decode cX4_put 40 = .ok (.iload_n 2, 1) := by decide +kernel
theorem dX4_put_41 : decode cX4_put 41 = .ok (.i2s, 1) := by decide +kernel
theorem dX4_put_42 : decode cX4_put 42 = .ok (.iastore, 1) := by decide +kernel
theorem dX4_put_43 : decode cX4_put 43 = .ok (.goto 10, 3) := by decide +kernel
theorem dX4_put_46 : decode cX4_put 46 = .ok (.aload_n 0, 1) := by decide +kernel
theorem dX4_put_47 : decode cX4_put 47 = .ok (.getfield 18, 3) := by decide +kernel
theorem dX4_put_50 : decode cX4_put 50 = .ok (.iload_n 1, 1) := by decide +kernel
theorem dX4_put_51 : decode cX4_put 51 = .ok (.iload_n 2, 1) := by decide +kernel
theorem dX4_put_52 : decode cX4_put 52 = .ok (.iastore, 1) := by decide +kernel
theorem dX4_put_53 : decode cX4_put 53 = .ok (.return_, 1) := by decide +kernel
theorem dX5_init_0 : decode cX5_init 0 = .ok (.aload_n 0, 1) := by decide +kernel
theorem dX5_init_1 : decode cX5_init 1 = .ok (.invokespecial 3, 3) := by decide +kernel
theorem dX5_init_4 : decode cX5_init 4 = .ok (.aload_n 0, 1) := by decide +kernel
theorem dX5_init_5 : decode cX5_init 5 = .ok (.iconst 0, 1) := by decide +kernel
theorem dX5_init_6 : decode cX5_init 6 = .ok (.putfield 9, 3) := by decide +kernel
theorem dX5_init_9 : decode cX5_init 9 = .ok (.aload_n 0, 1) := by decide +kernel
theorem dX5_init_10 : decode cX5_init 10 = .ok (.iconst 3, 1) := by decide +kernel
theorem dX5_init_11 : decode cX5_init 11 = .ok (.putfield 15, 3) := by decide +kernel
theorem dX5_init_14 : decode cX5_init 14 = .ok (.aload_n 0, 1) := by decide +kernel
theorem dX5_init_15 : decode cX5_init 15 = .ok (.iconst 0, 1) := by decide +kernel
theorem dX5_init_16 : decode cX5_init 16 = .ok (.putfield 18, 3) := by decide +kernel
theorem dX5_init_19 : decode cX5_init 19 = .ok (.aload_n 0, 1) := by decide +kernel
theorem dX5_init_20 : decode cX5_init 20 = .ok (.iconst 0, 1) := by decide +kernel
theorem dX5_init_21 : decode cX5_init 21 = .ok (.putfield 21, 3) := by decide +kernel
theorem dX5_init_24 : decode cX5_init 24 = .ok (.aload_n 0, 1) := by decide +kernel
theorem dX5_init_25 : decode cX5_init 25 = .ok (.iconst 0, 1) := by decide +kernel
theorem dX5_init_26 : decode cX5_init 26 = .ok (.putfield 24, 3) := by decide +kernel
theorem dX5_init_29 : decode cX5_init 29 = .ok (.aload_n 0, 1) := by decide +kernel
theorem dX5_init_30 : decode cX5_init 30 = .ok (.sipush 160, 3) := by decide +kernel
theorem dX5_init_33 : decode cX5_init 33 = .ok (.newarray .byte, 2) := by decide +kernel
theorem dX5_init_35 : decode cX5_init 35 = .ok (.putfield 27, 3) := by decide +kernel
theorem dX5_init_38 : decode cX5_init 38 = .ok (.return_, 1) := by decide +kernel
theorem dX5_append_0 : decode cX5_append 0 = .ok (.aload_n 0, 1) := by decide +kernel
theorem dX5_append_1 : decode cX5_append 1 = .ok (.getfield 9, 3) := by decide +kernel
theorem dX5_append_4 : decode cX5_append 4 = .ok (.sipush 160, 3) := by decide +kernel
theorem dX5_append_7 : decode cX5_append 7 = .ok (.if_icmp .lt 6, 3) := by decide +kernel
theorem dX5_append_10 : decode cX5_append 10 = .ok (.bipush (-3), 2) := by decide +kernel
theorem dX5_append_12 : decode cX5_append 12 = .ok (.ireturn, 1) := by decide +kernel
theorem dX5_append_13 : decode cX5_append 13 = .ok (.aload_n 0, 1) := by decide +kernel
theorem dX5_append_14 : decode cX5_append 14 = .ok (.getfield 27, 3) := by decide +kernel
theorem dX5_append_17 : decode cX5_append 17 = .ok (.aload_n 0, 1) := by decide +kernel
theorem dX5_append_18 : decode cX5_append 18 = .ok (.getfield 9, 3) := by decide +kernel
theorem dX5_append_21 : decode cX5_append 21 = .ok (.iload_n 1, 1) := by decide +kernel
theorem dX5_append_22 : decode cX5_append 22 = .ok (.i2b, 1) := by decide +kernel
theorem dX5_append_23 : decode cX5_append 23 = .ok (.bastore, 1) := by decide +kernel
theorem dX5_append_24 : decode cX5_append 24 = .ok (.aload_n 0, 1) := by decide +kernel
theorem dX5_append_25 : decode cX5_append 25 = .ok (.dup, 1) := by decide +kernel
theorem dX5_append_26 : decode cX5_append 26 = .ok (.getfield 9, 3) := by decide +kernel
theorem dX5_append_29 : decode cX5_append 29 = .ok (.iconst 1, 1) := by decide +kernel
theorem dX5_append_30 : decode cX5_append 30 = .ok (.iadd, 1) := by decide +kernel
theorem dX5_append_31 : decode cX5_append 31 = .ok (.putfield 9, 3) := by decide +kernel
theorem dX5_append_34 : decode cX5_append 34 = .ok (.aload_n 0, 1) := by decide +kernel
theorem dX5_append_35 : decode cX5_append 35 = .ok (.getfield 9, 3) := by decide +kernel
theorem dX5_append_38 : decode cX5_append 38 = .ok (.ireturn, 1) := by decide +kernel
theorem dX5_rewind_0 : decode cX5_rewind 0 = .ok (.aload_n 0, 1) := by decide +kernel
theorem dX5_rewind_1 : decode cX5_rewind 1 = .ok (.iconst 0, 1) := by decide +kernel
theorem dX5_rewind_2 : decode cX5_rewind 2 = .ok (.putfield 24, 3) := by decide +kernel
theorem dX5_rewind_5 : decode cX5_rewind 5 = .ok (.return_, 1) := by decide +kernel
theorem dX5_advance_0 : decode cX5_advance 0 = .ok (.aload_n 0, 1) := by decide +kernel
theorem dX5_advance_1 : decode cX5_advance 1 = .ok (.getfield 24, 3) := by decide +kernel
theorem dX5_advance_4 : decode cX5_advance 4 = .ok (.aload_n 0, 1) := by decide +kernel
theorem dX5_advance_5 : decode cX5_advance 5 = .ok (.getfield 9, 3) := by decide +kernel
theorem dX5_advance_8 : decode cX5_advance 8 = .ok (.if_icmp .ge 30, 3) := by decide +kernel
theorem dX5_advance_11 : decode cX5_advance 11 = .ok (.aload_n 0, 1) := by decide +kernel
theorem dX5_advance_12 : decode cX5_advance 12 = .ok (.getfield 27, 3) := by decide +kernel
theorem dX5_advance_15 : decode cX5_advance 15 = .ok (.aload_n 0, 1) := by decide +kernel
theorem dX5_advance_16 : decode cX5_advance 16 = .ok (.getfield 24, 3) := by decide +kernel
theorem dX5_advance_19 : decode cX5_advance 19 = .ok (.baload, 1) := by decide +kernel
theorem dX5_advance_20 : decode cX5_advance 20 = .ok (.bipush 32, 2) := by decide +kernel
theorem dX5_advance_22 : decode cX5_advance 22 = .ok (.if_icmp .ne 16, 3) := by decide +kernel
theorem dX5_advance_25 : decode cX5_advance 25 = .ok (.aload_n 0, 1) := by decide +kernel
theorem dX5_advance_26 : decode cX5_advance 26 = .ok (.dup, 1) := by decide +kernel
theorem dX5_advance_27 : decode cX5_advance 27 = .ok (.getfield 24, 3) := by decide +kernel
theorem dX5_advance_30 : decode cX5_advance 30 = .ok (.iconst 1, 1) := by decide +kernel
theorem dX5_advance_31 : decode cX5_advance 31 = .ok (.iadd, 1) := by decide +kernel
theorem dX5_advance_32 : decode cX5_advance 32 = .ok (.putfield 24, 3) := by decide +kernel
theorem dX5_advance_35 : decode cX5_advance 35 = .ok (.goto (-35), 3) := by decide +kernel
theorem dX5_advance_38 : decode cX5_advance 38 = .ok (.aload_n 0, 1) := by decide +kernel
theorem dX5_advance_39 : decode cX5_advance 39 = .ok (.aload_n 0, 1) := by decide +kernel
theorem dX5_advance_40 : decode cX5_advance 40 = .ok (.getfield 24, 3) := by decide +kernel
theorem dX5_advance_43 : decode cX5_advance 43 = .ok (.putfield 18, 3) := by decide +kernel
theorem dX5_advance_46 : decode cX5_advance 46 = .ok (.aload_n 0, 1) := by decide +kernel
theorem dX5_advance_47 : decode cX5_advance 47 = .ok (.getfield 24, 3) := by decide +kernel
theorem dX5_advance_50 : decode cX5_advance 50 = .ok (.aload_n 0, 1) := by decide +kernel
theorem dX5_advance_51 : decode cX5_advance 51 = .ok (.getfield 9, 3) := by decide +kernel
theorem dX5_advance_54 : decode cX5_advance 54 = .ok (.if_icmp .lt 11, 3) := by decide +kernel
theorem dX5_advance_57 : decode cX5_advance 57 = .ok (.aload_n 0, 1) := by decide +kernel
theorem dX5_advance_58 : decode cX5_advance 58 = .ok (.iconst 3, 1) := by decide +kernel
theorem dX5_advance_59 : decode cX5_advance 59 = .ok (.putfield 15, 3) := by decide +kernel
theorem dX5_advance_62 : decode cX5_advance 62 = .ok (.goto 80, 3) := by decide +kernel
theorem dX5_advance_65 : decode cX5_advance 65 = .ok (.aload_n 0, 1) := by decide +kernel
theorem dX5_advance_66 : decode cX5_advance 66 = .ok (.getfield 27, 3) := by decide +kernel
theorem dX5_advance_69 : decode cX5_advance 69 = .ok (.aload_n 0, 1) := by decide +kernel
theorem dX5_advance_70 : decode cX5_advance 70 = .ok (.getfield 24, 3) := by decide +kernel
theorem dX5_advance_73 : decode cX5_advance 73 = .ok (.baload, 1) := by decide +kernel
theorem dX5_advance_74 : decode cX5_advance 74 = .ok (.invokestatic 31, 3) := by decide +kernel
theorem dX5_advance_77 : decode cX5_advance 77 = .ok (.ifCond .eq 10, 3) := by decide +kernel
theorem dX5_advance_80 : decode cX5_advance 80 = .ok (.aload_n 0, 1) := by decide +kernel
theorem dX5_advance_81 : decode cX5_advance 81 = .ok (.invokevirtual 35, 3) := by decide +kernel
theorem dX5_advance_84 : decode cX5_advance 84 = .ok (.goto 58, 3) := by decide +kernel
theorem dX5_advance_87 : decode cX5_advance 87 = .ok (.aload_n 0, 1) := by decide +kernel
theorem dX5_advance_88 : decode cX5_advance 88 = .ok (.getfield 27, 3) := by decide +kernel
theorem dX5_advance_91 : decode cX5_advance 91 = .ok (.aload_n 0, 1) := by decide +kernel
theorem dX5_advance_92 : decode cX5_advance 92 = .ok (.getfield 24, 3) := by decide +kernel
theorem dX5_advance_95 : decode cX5_advance 95 = .ok (.baload, 1) := by decide +kernel
theorem dX5_advance_96 : decode cX5_advance 96 = .ok (.invokestatic 38, 3) := by decide +kernel
theorem dX5_advance_99 : decode cX5_advance 99 = .ok (.ifCond .eq 10, 3) := by decide +kernel
theorem dX5_advance_102 : decode cX5_advance 102 = .ok (.aload_n 0, 1) := by decide +kernel
theorem dX5_advance_103 : decode cX5_advance 103 = .ok (.invokevirtual 41, 3) := by decide +kernel
theorem dX5_advance_106 : decode cX5_advance 106 = .ok (.goto 36, 3) := by decide +kernel
theorem dX5_advance_109 : decode cX5_advance 109 = .ok (.aload_n 0, 1) := by decide +kernel
theorem dX5_advance_110 : decode cX5_advance 110 = .ok (.aload_n 0, 1) := by decide +kernel
theorem dX5_advance_111 : decode cX5_advance 111 = .ok (.getfield 27, 3) := by decide +kernel
theorem dX5_advance_114 : decode cX5_advance 114 = .ok (.aload_n 0, 1) := by decide +kernel
theorem dX5_advance_115 : decode cX5_advance 115 = .ok (.getfield 24, 3) := by decide +kernel
theorem dX5_advance_118 : decode cX5_advance 118 = .ok (.baload, 1) := by decide +kernel
theorem dX5_advance_119 : decode cX5_advance 119 = .ok (.bipush 59, 2) := by decide +kernel
theorem dX5_advance_121 : decode cX5_advance 121 = .ok (.if_icmp .ne 7, 3) := by decide +kernel
theorem dX5_advance_124 : decode cX5_advance 124 = .ok (.iconst 2, 1) := by decide +kernel
theorem dX5_advance_125 : decode cX5_advance 125 = .ok (.goto 4, 3) := by decide +kernel
theorem dX5_advance_128 : decode cX5_advance 128 = .ok (.iconst 4, 1) := by decide +kernel
theorem dX5_advance_129 : decode cX5_advance 129 = .ok (.putfield 15, 3) := by decide +kernel
theorem dX5_advance_132 : decode cX5_advance 132 = .ok (.aload_n 0, 1) := by decide +kernel
theorem dX5_advance_133 : decode cX5_advance 133 = .ok (.dup, 1) := by decide +kernel
theorem dX5_advance_134 : decode cX5_advance 134 = .ok (.getfield 24, 3) := by decide +kernel
theorem dX5_advance_137 : decode cX5_advance 137 = .ok (.iconst 1, 1) := by decide +kernel
theorem dX5_advance_138 : decode cX5_advance 138 = .ok (.iadd, 1) := by decide +kernel
theorem dX5_advance_139 : decode cX5_advance 139 = .ok (.putfield 24, 3) := by decide +kernel
theorem dX5_advance_142 : decode cX5_advance 142 = .ok (.return_, 1) := by decide +kernel
theorem dX5_isName_0 : decode cX5_isName 0 = .ok (.aload_n 0, 1) := by decide +kernel
theorem dX5_isName_1 : decode cX5_isName 1 = .ok (.getfield 15, 3) := by decide +kernel
theorem dX5_isName_4 : decode cX5_isName 4 = .ok (.ifCond .ne 19, 3) := by decide +kernel
theorem dX5_isName_7 : decode cX5_isName 7 = .ok (.aload_n 0, 1) := by decide +kernel
theorem dX5_isName_8 : decode cX5_isName 8 = .ok (.getfield 24, 3) := by decide +kernel
theorem dX5_isName_11 : decode cX5_isName 11 = .ok (.aload_n 0, 1) := by decide +kernel
theorem dX5_isName_12 : decode cX5_isName 12 = .ok (.getfield 18, 3) := by decide +kernel
theorem dX5_isName_15 : decode cX5_isName 15 = .ok (.isub, 1) := by decide +kernel
theorem dX5_isName_16 : decode cX5_isName 16 = .ok (.aload_n 1, 1) := by decide +kernel
theorem dX5_isName_17 : decode cX5_isName 17 = .ok (.invokevirtual 44, 3) := by decide +kernel
theorem dX5_isName_20 : decode cX5_isName 20 = .ok (.if_icmp .eq 5, 3) := by decide +kernel
theorem dX5_isName_23 : decode cX5_isName 23 = .ok (.iconst 0, 1) := by decide +kernel
theorem dX5_isName_24 : decode cX5_isName 24 = .ok (.ireturn, 1) := by decide +kernel
theorem dX5_isName_25 : decode cX5_isName 25 = .ok (.iconst 0, 1) := by decide +kernel
theorem dX5_isName_26 : decode cX5_isName 26 = .ok (.istore_n 2, 1) := by decide +kernel
theorem dX5_isName_27 : decode cX5_isName 27 = .ok (.iload_n 2, 1) := by decide +kernel
theorem dX5_isName_28 : decode cX5_isName 28 = .ok (.aload_n 1, 1) := by decide +kernel
theorem dX5_isName_29 : decode cX5_isName 29 = .ok (.invokevirtual 44, 3) := by decide +kernel
theorem dX5_isName_32 : decode cX5_isName 32 = .ok (.if_icmp .ge 30, 3) := by decide +kernel
theorem dX5_isName_35 : decode cX5_isName 35 = .ok (.aload_n 0, 1) := by decide +kernel
theorem dX5_isName_36 : decode cX5_isName 36 = .ok (.getfield 27, 3) := by decide +kernel
theorem dX5_isName_39 : decode cX5_isName 39 = .ok (.aload_n 0, 1) := by decide +kernel
theorem dX5_isName_40 : decode cX5_isName 40 = .ok (.getfield 18, 3) := by decide +kernel
theorem dX5_isName_43 : decode cX5_isName 43 = .ok (.iload_n 2, 1) := by decide +kernel
theorem dX5_isName_44 : decode cX5_isName 44 = .ok (.iadd, 1) := by decide +kernel
theorem dX5_isName_45 : decode cX5_isName 45 = .ok (.baload, 1) := by decide +kernel
theorem dX5_isName_46 : decode cX5_isName 46 = .ok (.aload_n 1, 1) := by decide +kernel
theorem dX5_isName_47 : decode cX5_isName 47 = .ok (.iload_n 2, 1) := by decide +kernel
theorem dX5_isName_48 : decode cX5_isName 48 = .ok (.invokevirtual 49, 3) := by decide +kernel
theorem dX5_isName_51 : decode cX5_isName 51 = .ok (.if_icmp .eq 5, 3) := by decide +kernel
theorem dX5_isName_54 : decode cX5_isName 54 = .ok (.iconst 0, 1) := by decide +kernel
theorem dX5_isName_55 : decode cX5_isName 55 = .ok (.ireturn, 1) := by decide +kernel
theorem dX5_isName_56 : decode cX5_isName 56 = .ok (.iinc 2 1, 3) := by decide +kernel
theorem dX5_isName_59 : decode cX5_isName 59 = .ok (.goto (-32), 3) := by decide +kernel
theorem dX5_isName_62 : decode cX5_isName 62 = .ok (.iconst 1, 1) := by decide +kernel
theorem dX5_isName_63 : decode cX5_isName 63 = .ok (.ireturn, 1) := by decide +kernel
theorem dX5_takeName_0 : decode cX5_takeName 0 = .ok (.aload_n 0, 1) := by decide +kernel
theorem dX5_takeName_1 : decode cX5_takeName 1 = .ok (.iconst 0, 1) := by decide +kernel
theorem dX5_takeName_2 : decode cX5_takeName 2 = .ok (.putfield 15, 3) := by decide +kernel
theorem dX5_takeName_5 : decode cX5_takeName 5 = .ok (.aload_n 0, 1) := by decide +kernel
theorem dX5_takeName_6 : decode cX5_takeName 6 = .ok (.getfield 24, 3) := by decide +kernel
theorem dX5_takeName_9 : decode cX5_takeName 9 = .ok (.aload_n 0, 1) := by decide +kernel
theorem dX5_takeName_10 : decode cX5_takeName 10 = .ok (.getfield 9, 3) := by decide +kernel
theorem dX5_takeName_13 : decode cX5_takeName 13 = .ok (.if_icmp .ge 31, 3) := by decide +kernel
theorem dX5_takeName_16 : decode cX5_takeName 16 = .ok (.aload_n 0, 1) := by decide +kernel
theorem dX5_takeName_17 : decode cX5_takeName 17 = .ok (.getfield 27, 3) := by decide +kernel
theorem dX5_takeName_20 : decode cX5_takeName 20 = .ok (.aload_n 0, 1) := by decide +kernel
theorem dX5_takeName_21 : decode cX5_takeName 21 = .ok (.getfield 24, 3) := by decide +kernel
theorem dX5_takeName_24 : decode cX5_takeName 24 = .ok (.baload, 1) := by decide +kernel
theorem dX5_takeName_25 : decode cX5_takeName 25 = .ok (.invokestatic 31, 3) := by decide +kernel
theorem dX5_takeName_28 : decode cX5_takeName 28 = .ok (.ifCond .eq 16, 3) := by decide +kernel
theorem dX5_takeName_31 : decode cX5_takeName 31 = .ok (.aload_n 0, 1) := by decide +kernel
theorem dX5_takeName_32 : decode cX5_takeName 32 = .ok (.dup, 1) := by decide +kernel
theorem dX5_takeName_33 : decode cX5_takeName 33 = .ok (.getfield 24, 3) := by decide +kernel
theorem dX5_takeName_36 : decode cX5_takeName 36 = .ok (.iconst 1, 1) := by decide +kernel
theorem dX5_takeName_37 : decode cX5_takeName 37 = .ok (.iadd, 1) := by decide +kernel
theorem dX5_takeName_38 : decode cX5_takeName 38 = .ok (.putfield 24, 3) := by decide +kernel
theorem dX5_takeName_41 : decode cX5_takeName 41 = .ok (.goto (-36), 3) := by decide +kernel
theorem dX5_takeName_44 : decode cX5_takeName 44 = .ok (.return_, 1) := by decide +kernel
theorem dX5_takeNumber_0 : decode cX5_takeNumber 0 = .ok (.aload_n 0, 1) := by decide +kernel
theorem dX5_takeNumber_1 : decode cX5_takeNumber 1 = .ok (.iconst 0, 1) := by decide +kernel
theorem dX5_takeNumber_2 : decode cX5_takeNumber 2 = .ok (.putfield 21, 3) := by decide +kernel
theorem dX5_takeNumber_5 : decode cX5_takeNumber 5 = .ok (.aload_n 0, 1) := by decide +kernel
theorem dX5_takeNumber_6 : decode cX5_takeNumber 6 = .ok (.getfield 24, 3) := by decide +kernel
theorem dX5_takeNumber_9 : decode cX5_takeNumber 9 = .ok (.aload_n 0, 1) := by decide +kernel
theorem dX5_takeNumber_10 : decode cX5_takeNumber 10 = .ok (.getfield 9, 3) := by decide +kernel
theorem dX5_takeNumber_13 : decode cX5_takeNumber 13 = .ok (.if_icmp .ge 55, 3) := by decide +kernel
theorem dX5_takeNumber_16 : decode cX5_takeNumber 16 = .ok (.aload_n 0, 1) := by decide +kernel
theorem dX5_takeNumber_17 : decode cX5_takeNumber 17 = .ok (.getfield 27, 3) := by decide +kernel
theorem dX5_takeNumber_20 : decode cX5_takeNumber 20 = .ok (.aload_n 0, 1) := by decide +kernel
theorem dX5_takeNumber_21 : decode cX5_takeNumber 21 = .ok (.getfield 24, 3) := by decide +kernel
theorem dX5_takeNumber_24 : decode cX5_takeNumber 24 = .ok (.baload, 1) := by decide +kernel
theorem dX5_takeNumber_25 : decode cX5_takeNumber 25 = .ok (.invokestatic 38, 3) := by decide +kernel
theorem dX5_takeNumber_28 : decode cX5_takeNumber 28 = .ok (.ifCond .eq 40, 3) := by decide +kernel
theorem dX5_takeNumber_31 : decode cX5_takeNumber 31 = .ok (.aload_n 0, 1) := by decide +kernel
theorem dX5_takeNumber_32 : decode cX5_takeNumber 32 = .ok (.aload_n 0, 1) := by decide +kernel
theorem dX5_takeNumber_33 : decode cX5_takeNumber 33 = .ok (.getfield 21, 3) := by decide +kernel
theorem dX5_takeNumber_36 : decode cX5_takeNumber 36 = .ok (.bipush 10, 2) := by decide +kernel
theorem dX5_takeNumber_38 : decode cX5_takeNumber 38 = .ok (.imul, 1) := by decide +kernel
theorem dX5_takeNumber_39 : decode cX5_takeNumber 39 = .ok (.aload_n 0, 1) := by decide +kernel
theorem dX5_takeNumber_40 : decode cX5_takeNumber 40 = .ok (.getfield 27, 3) := by decide +kernel
theorem dX5_takeNumber_43 : decode cX5_takeNumber 43 = .ok (.aload_n 0, 1) := by decide +kernel
theorem dX5_takeNumber_44 : decode cX5_takeNumber 44 = .ok (.getfield 24, 3) := by decide +kernel
theorem dX5_takeNumber_47 : decode cX5_takeNumber 47 = .ok (.baload, 1) := by decide +kernel
theorem dX5_takeNumber_48 : decode cX5_takeNumber 48 = .ok (.iadd, 1) := by decide +kernel
theorem dX5_takeNumber_49 : decode cX5_takeNumber 49 = .ok (.bipush 48, 2) := by decide +kernel
theorem dX5_takeNumber_51 : decode cX5_takeNumber 51 = .ok (.isub, 1) := by decide +kernel
theorem dX5_takeNumber_52 : decode cX5_takeNumber 52 = .ok (.putfield 21, 3) := by decide +kernel
theorem dX5_takeNumber_55 : decode cX5_takeNumber 55 = .ok (.aload_n 0, 1) := by decide +kernel
theorem dX5_takeNumber_56 : decode cX5_takeNumber 56 = .ok (.dup, 1) := by decide +kernel
theorem dX5_takeNumber_57 : decode cX5_takeNumber 57 = .ok (.getfield 24, 3) := by decide +kernel
theorem dX5_takeNumber_60 : decode cX5_takeNumber 60 = .ok (.iconst 1, 1) := by decide +kernel
theorem dX5_takeNumber_61 : decode cX5_takeNumber 61 = .ok (.iadd, 1) := by decide +kernel
theorem dX5_takeNumber_62 : decode cX5_takeNumber 62 = .ok (.putfield 24, 3) := by decide +kernel
theorem dX5_takeNumber_65 : decode cX5_takeNumber 65 = .ok (.goto (-60), 3) := by decide +kernel
theorem dX5_takeNumber_68 : decode cX5_takeNumber 68 = .ok (.aload_n 0, 1) := by decide +kernel
theorem dX5_takeNumber_69 : decode cX5_takeNumber 69 = .ok (.aload_n 0, 1) := by decide +kernel
theorem dX5_takeNumber_70 : decode cX5_takeNumber 70 = .ok (.getfield 24, 3) := by decide +kernel
theorem dX5_takeNumber_73 : decode cX5_takeNumber 73 = .ok (.aload_n 0, 1) := by decide +kernel
theorem dX5_takeNumber_74 : decode cX5_takeNumber 74 = .ok (.getfield 18, 3) := by decide +kernel
theorem dX5_takeNumber_77 : decode cX5_takeNumber 77 = .ok (.isub, 1) := by decide +kernel
theorem dX5_takeNumber_78 : decode cX5_takeNumber 78 = .ok (.iconst 3, 1) := by decide +kernel
theorem dX5_takeNumber_79 : decode cX5_takeNumber 79 = .ok (.if_icmp .le 7, 3) := by decide +kernel
theorem dX5_takeNumber_82 : decode cX5_takeNumber 82 = .ok (.iconst 4, 1) := by decide +kernel
theorem dX5_takeNumber_83 : decode cX5_takeNumber 83 = .ok (.goto 4, 3) := by decide +kernel
theorem dX5_takeNumber_86 : decode cX5_takeNumber 86 = .ok (.iconst 1, 1) := by decide +kernel
theorem dX5_takeNumber_87 : decode cX5_takeNumber 87 = .ok (.putfield 15, 3) := by decide +kernel
theorem dX5_takeNumber_90 : decode cX5_takeNumber 90 = .ok (.return_, 1) := by decide +kernel
theorem dX5_isLetter_0 : decode cX5_isLetter 0 = .ok (.iload_n 0, 1) := by decide +kernel
theorem dX5_isLetter_1 : decode cX5_isLetter 1 = .ok (.bipush 97, 2) := by decide +kernel
theorem dX5_isLetter_3 : decode cX5_isLetter 3 = .ok (.bipush 122, 2) := by decide +kernel
theorem dX5_isLetter_5 : decode cX5_isLetter 5 = .ok (.invokestatic 53, 3) := by decide +kernel
theorem dX5_isLetter_8 : decode cX5_isLetter 8 = .ok (.ireturn, 1) := by decide +kernel
theorem dX5_isFigure_0 : decode cX5_isFigure 0 = .ok (.iload_n 0, 1) := by decide +kernel
theorem dX5_isFigure_1 : decode cX5_isFigure 1 = .ok (.bipush 48, 2) := by decide +kernel
theorem dX5_isFigure_3 : decode cX5_isFigure 3 = .ok (.bipush 57, 2) := by decide +kernel
theorem dX5_isFigure_5 : decode cX5_isFigure 5 = .ok (.invokestatic 53, 3) := by decide +kernel
theorem dX5_isFigure_8 : decode cX5_isFigure 8 = .ok (.ireturn, 1) := by decide +kernel
theorem dX6_init_0 : decode cX6_init 0 = .ok (.aload_n 0, 1) := by decide +kernel
theorem dX6_init_1 : decode cX6_init 1 = .ok (.invokespecial 3, 3) := by decide +kernel
theorem dX6_init_4 : decode cX6_init 4 = .ok (.aload_n 0, 1) := by decide +kernel
theorem dX6_init_5 : decode cX6_init 5 = .ok (.iconst 0, 1) := by decide +kernel
theorem dX6_init_6 : decode cX6_init 6 = .ok (.putfield 9, 3) := by decide +kernel
theorem dX6_init_9 : decode cX6_init 9 = .ok (.aload_n 0, 1) := by decide +kernel
theorem dX6_init_10 : decode cX6_init 10 = .ok (.iconst 4, 1) := by decide +kernel
theorem dX6_init_11 : decode cX6_init 11 = .ok (.newarray .int, 2) := by decide +kernel
theorem dX6_init_13 : decode cX6_init 13 = .ok (.putfield 15, 3) := by decide +kernel
theorem dX6_init_16 : decode cX6_init 16 = .ok (.aload_n 0, 1) := by decide +kernel
theorem dX6_init_17 : decode cX6_init 17 = .ok (.bipush 32, 2) := by decide +kernel
theorem dX6_init_19 : decode cX6_init 19 = .ok (.newarray .int, 2) := by decide +kernel
theorem dX6_init_21 : decode cX6_init 21 = .ok (.putfield 19, 3) := by decide +kernel
theorem dX6_init_24 : decode cX6_init 24 = .ok (.aload_n 0, 1) := by decide +kernel
theorem dX6_init_25 : decode cX6_init 25 = .ok (.iconst 0, 1) := by decide +kernel
theorem dX6_init_26 : decode cX6_init 26 = .ok (.putfield 22, 3) := by decide +kernel
theorem dX6_init_29 : decode cX6_init 29 = .ok (.aload_n 0, 1) := by decide +kernel
theorem dX6_init_30 : decode cX6_init 30 = .ok (.iconst 0, 1) := by decide +kernel
theorem dX6_init_31 : decode cX6_init 31 = .ok (.putfield 25, 3) := by decide +kernel
theorem dX6_init_34 : decode cX6_init 34 = .ok (.aload_n 0, 1) := by decide +kernel
theorem dX6_init_35 : decode cX6_init 35 = .ok (.iconst 0, 1) := by decide +kernel
theorem dX6_init_36 : decode cX6_init 36 = .ok (.putfield 28, 3) := by decide +kernel
theorem dX6_init_39 : decode cX6_init 39 = .ok (.aload_n 0, 1) := by decide +kernel
theorem dX6_init_40 : decode cX6_init 40 = .ok (.iconst 0, 1) := by decide +kernel
theorem dX6_init_41 : decode cX6_init 41 = .ok (.putfield 31, 3) := by decide +kernel
theorem dX6_init_44 : decode cX6_init 44 = .ok (.return_, 1) := by decide +kernel
theorem dX6_run_0 : decode cX6_run 0 = .ok (.aload_n 0, 1) := by decide +kernel
theorem dX6_run_1 : decode cX6_run 1 = .ok (.iconst 0, 1) := by decide +kernel
theorem dX6_run_2 : decode cX6_run 2 = .ok (.putfield 9, 3) := by decide +kernel
theorem dX6_run_5 : decode cX6_run 5 = .ok (.aload_n 0, 1) := by decide +kernel
theorem dX6_run_6 : decode cX6_run 6 = .ok (.iload_n 1, 1) := by decide +kernel
theorem dX6_run_7 : decode cX6_run 7 = .ok (.iload_n 2, 1) := by decide +kernel
theorem dX6_run_8 : decode cX6_run 8 = .ok (.iadd, 1) := by decide +kernel
theorem dX6_run_9 : decode cX6_run 9 = .ok (.putfield 25, 3) := by decide +kernel
theorem dX6_run_12 : decode cX6_run 12 = .ok (.aload_n 0, 1) := by decide +kernel
theorem dX6_run_13 : decode cX6_run 13 = .ok (.iload_n 3, 1) := by decide +kernel
theorem dX6_run_14 : decode cX6_run 14 = .ok (.iconst 4, 1) := by decide +kernel
theorem dX6_run_15 : decode cX6_run 15 = .ok (.invokestatic 34, 3) := by decide +kernel
theorem dX6_run_18 : decode cX6_run 18 = .ok (.putfield 28, 3) := by decide +kernel
theorem dX6_run_21 : decode cX6_run 21 = .ok (.aload_n 0, 1) := by decide +kernel
theorem dX6_run_22 : decode cX6_run 22 = .ok (.iload 4, 2) := by decide +kernel
theorem dX6_run_24 : decode cX6_run 24 = .ok (.putfield 31, 3) := by decide +kernel
theorem dX6_run_27 : decode cX6_run 27 = .ok (.aload_n 0, 1) := by decide +kernel
theorem dX6_run_28 : decode cX6_run 28 = .ok (.invokevirtual 40, 3) := by decide +kernel
theorem dX6_run_31 : decode cX6_run 31 = .ok (.aload_n 0, 1) := by decide +kernel
theorem dX6_run_32 : decode cX6_run 32 = .ok (.iconst 0, 1) := by decide +kernel
theorem dX6_run_33 : decode cX6_run 33 = .ok (.iconst 0, 1) := by decide +kernel
theorem dX6_run_34 : decode cX6_run 34 = .ok (.iload_n 1, 1) := by decide +kernel
theorem dX6_run_35 : decode cX6_run 35 = .ok (.invokestatic 43, 3) := by decide +kernel
theorem dX6_run_38 : decode cX6_run 38 = .ok (.return_, 1) := by decide +kernel
theorem dX6_findDowns_0 : decode cX6_findDowns 0 = .ok (.aload_n 0, 1) := by decide +kernel
theorem dX6_findDowns_1 : decode cX6_findDowns 1 = .ok (.iconst 0, 1) := by decide +kernel
theorem dX6_findDowns_2 : decode cX6_findDowns 2 = .ok (.putfield 22, 3) := by decide +kernel
theorem dX6_findDowns_5 : decode cX6_findDowns 5 = .ok (.iconst 2, 1) := by decide +kernel
theorem dX6_findDowns_6 : decode cX6_findDowns 6 = .ok (.istore_n 1, 1) := by decide +kernel
theorem dX6_findDowns_7 : decode cX6_findDowns 7 = .ok (.iload_n 1, 1) := by decide +kernel
theorem dX6_findDowns_8 : decode cX6_findDowns 8 = .ok (.aload_n 0, 1) := by decide +kernel
theorem dX6_findDowns_9 : decode cX6_findDowns 9 = .ok (.getfield 25, 3) := by decide +kernel
theorem dX6_findDowns_12 : decode cX6_findDowns 12 = .ok (.if_icmp .gt 56, 3) := by decide +kernel
theorem dX6_findDowns_15 : decode cX6_findDowns 15 = .ok (.aload_n 0, 1) := by decide +kernel
theorem dX6_findDowns_16 : decode cX6_findDowns 16 = .ok (.getfield 25, 3) := by decide +kernel
theorem dX6_findDowns_19 : decode cX6_findDowns 19 = .ok (.i2l, 1) := by decide +kernel
theorem dX6_findDowns_20 : decode cX6_findDowns 20 = .ok (.iload_n 1, 1) := by decide +kernel
theorem dX6_findDowns_21 : decode cX6_findDowns 21 = .ok (.i2l, 1) := by decide +kernel
theorem dX6_findDowns_22 : decode cX6_findDowns 22 = .ok (.invokestatic 47, 3) := by decide +kernel
theorem dX6_findDowns_25 : decode cX6_findDowns 25 = .ok (.lconst 0, 1) := by decide +kernel
theorem dX6_findDowns_26 : decode cX6_findDowns 26 = .ok (.lcmp, 1) := by decide +kernel
theorem dX6_findDowns_27 : decode cX6_findDowns 27 = .ok (.ifCond .ne 35, 3) := by decide +kernel
theorem dX6_findDowns_30 : decode cX6_findDowns 30 = .ok (.aload_n 0, 1) := by decide +kernel
theorem dX6_findDowns_31 : decode cX6_findDowns 31 = .ok (.getfield 22, 3) := by decide +kernel
theorem dX6_findDowns_34 : decode cX6_findDowns 34 = .ok (.aload_n 0, 1) := by decide +kernel
theorem dX6_findDowns_35 : decode cX6_findDowns 35 = .ok (.getfield 19, 3) := by decide +kernel
theorem dX6_findDowns_38 : decode cX6_findDowns 38 = .ok (.arraylength, 1) := by decide +kernel
theorem dX6_findDowns_39 : decode cX6_findDowns 39 = .ok (.if_icmp .ge 23, 3) := by decide +kernel
theorem dX6_findDowns_42 : decode cX6_findDowns 42 = .ok (.aload_n 0, 1) := by decide +kernel
theorem dX6_findDowns_43 : decode cX6_findDowns 43 = .ok (.getfield 19, 3) := by decide +kernel
theorem dX6_findDowns_46 : decode cX6_findDowns 46 = .ok (.aload_n 0, 1) := by decide +kernel
theorem dX6_findDowns_47 : decode cX6_findDowns 47 = .ok (.getfield 22, 3) := by decide +kernel
theorem dX6_findDowns_50 : decode cX6_findDowns 50 = .ok (.iload_n 1, 1) := by decide +kernel
theorem dX6_findDowns_51 : decode cX6_findDowns 51 = .ok (.iastore, 1) := by decide +kernel
theorem dX6_findDowns_52 : decode cX6_findDowns 52 = .ok (.aload_n 0, 1) := by decide +kernel
theorem dX6_findDowns_53 : decode cX6_findDowns 53 = .ok (.dup, 1) := by decide +kernel
theorem dX6_findDowns_54 : decode cX6_findDowns 54 = .ok (.getfield 22, 3) := by decide +kernel
theorem dX6_findDowns_57 : decode cX6_findDowns 57 = .ok (.iconst 1, 1) := by decide +kernel
theorem dX6_findDowns_58 : decode cX6_findDowns 58 = .ok (.iadd, 1) := by decide +kernel
theorem dX6_findDowns_59 : decode cX6_findDowns 59 = .ok (.putfield 22, 3) := by decide +kernel
theorem dX6_findDowns_62 : decode cX6_findDowns 62 = .ok (.iinc 1 1, 3) := by decide +kernel
theorem dX6_findDowns_65 : decode cX6_findDowns 65 = .ok (.goto (-58), 3) := by decide +kernel
theorem dX6_findDowns_68 : decode cX6_findDowns 68 = .ok (.return_, 1) := by decide +kernel
theorem dX6_choose_0 : decode cX6_choose 0 = .ok (.iload_n 1, 1) := by decide +kernel
theorem dX6_choose_1 : decode cX6_choose 1 = .ok (.aload_n 0, 1) := by decide +kernel
theorem dX6_choose_2 : decode cX6_choose 2 = .ok (.getfield 28, 3) := by decide +kernel
theorem dX6_choose_5 : decode cX6_choose 5 = .ok (.if_icmp .lt 22, 3) := by decide +kernel
theorem dX6_choose_8 : decode cX6_choose 8 = .ok (.aload_n 0, 1) := by decide +kernel
theorem dX6_choose_9 : decode cX6_choose 9 = .ok (.dup, 1) := by decide +kernel
theorem dX6_choose_10 : decode cX6_choose 10 = .ok (.getfield 9, 3) := by decide +kernel
theorem dX6_choose_13 : decode cX6_choose 13 = .ok (.iload_n 3, 1) := by decide +kernel
theorem dX6_choose_14 : decode cX6_choose 14 = .ok (.ifCond .ne 7, 3) := by decide +kernel
theorem dX6_choose_17 : decode cX6_choose 17 = .ok (.iconst 1, 1) := by decide +kernel
theorem dX6_choose_18 : decode cX6_choose 18 = .ok (.goto 4, 3) := by decide +kernel
theorem dX6_choose_21 : decode cX6_choose 21 = .ok (.iconst 0, 1) := by decide +kernel
theorem dX6_choose_22 : decode cX6_choose 22 = .ok (.iadd, 1) := by decide +kernel
theorem dX6_choose_23 : decode cX6_choose 23 = .ok (.putfield 9, 3) := by decide +kernel
theorem dX6_choose_26 : decode cX6_choose 26 = .ok (.return_, 1) := by decide +kernel
theorem dX6_choose_27 : decode cX6_choose 27 = .ok (.iload_n 2, 1) := by decide +kernel
theorem dX6_choose_28 : decode cX6_choose 28 = .ok (.istore 4, 2) := by decide +kernel
theorem dX6_choose_30 : decode cX6_choose 30 = .ok (.iload 4, 2) := by decide +kernel
theorem dX6_choose_32 : decode cX6_choose 32 = .ok (.aload_n 0, 1) := by decide +kernel
theorem dX6_choose_33 : decode cX6_choose 33 = .ok (.getfield 22, 3) := by decide +kernel
theorem dX6_choose_36 : decode cX6_choose 36 = .ok (.if_icmp .ge 81, 3) := by decide +kernel
theorem dX6_choose_39 : decode cX6_choose 39 = .ok (.aload_n 0, 1) := by decide +kernel
theorem dX6_choose_40 : decode cX6_choose 40 = .ok (.invokevirtual 51, 3) := by decide +kernel
theorem dX6_choose_43 : decode cX6_choose 43 = .ok (.ifCond .ne 74, 3) := by decide +kernel
theorem dX6_choose_46 : decode cX6_choose 46 = .ok (.aload_n 0, 1) := by decide +kernel
theorem dX6_choose_47 : decode cX6_choose 47 = .ok (.getfield 25, 3) := by decide +kernel
theorem dX6_choose_50 : decode cX6_choose 50 = .ok (.i2l, 1) := by decide +kernel
theorem dX6_choose_51 : decode cX6_choose 51 = .ok (.aload_n 0, 1) := by decide +kernel
theorem dX6_choose_52 : decode cX6_choose 52 = .ok (.getfield 19, 3) := by decide +kernel
theorem dX6_choose_55 : decode cX6_choose 55 = .ok (.iload 4, 2) := by decide +kernel
theorem dX6_choose_57 : decode cX6_choose 57 = .ok (.iaload, 1) := by decide +kernel
theorem dX6_choose_58 : decode cX6_choose 58 = .ok (.i2l, 1) := by decide +kernel
theorem dX6_choose_59 : decode cX6_choose 59 = .ok (.invokestatic 55, 3) := by decide +kernel
theorem dX6_choose_62 : decode cX6_choose 62 = .ok (.l2i, 1) := by decide +kernel
theorem dX6_choose_63 : decode cX6_choose 63 = .ok (.istore 5, 2) := by decide +kernel
theorem dX6_choose_65 : decode cX6_choose 65 = .ok (.iload 5, 2) := by decide +kernel
theorem dX6_choose_67 : decode cX6_choose 67 = .ok (.aload_n 0, 1) := by decide +kernel
theorem dX6_choose_68 : decode cX6_choose 68 = .ok (.getfield 28, 3) := by decide +kernel
theorem dX6_choose_71 : decode cX6_choose 71 = .ok (.iload_n 1, 1) := by decide +kernel
theorem dX6_choose_72 : decode cX6_choose 72 = .ok (.isub, 1) := by decide +kernel
theorem dX6_choose_73 : decode cX6_choose 73 = .ok (.imul, 1) := by decide +kernel
theorem dX6_choose_74 : decode cX6_choose 74 = .ok (.iload_n 3, 1) := by decide +kernel
theorem dX6_choose_75 : decode cX6_choose 75 = .ok (.if_icmp .ge 4, 3) := by decide +kernel
theorem dX6_choose_78 : decode cX6_choose 78 = .ok (.return_, 1) := by decide +kernel
theorem dX6_choose_79 : decode cX6_choose 79 = .ok (.iload 5, 2) := by decide +kernel
theorem dX6_choose_81 : decode cX6_choose 81 = .ok (.iload_n 3, 1) := by decide +kernel
theorem dX6_choose_82 : decode cX6_choose 82 = .ok (.if_icmp .gt 29, 3) := by decide +kernel
theorem dX6_choose_85 : decode cX6_choose 85 = .ok (.aload_n 0, 1) := by decide +kernel
theorem dX6_choose_86 : decode cX6_choose 86 = .ok (.getfield 15, 3) := by decide +kernel
theorem dX6_choose_89 : decode cX6_choose 89 = .ok (.iload_n 1, 1) := by decide +kernel
theorem dX6_choose_90 : decode cX6_choose 90 = .ok (.aload_n 0, 1) := by decide +kernel
theorem dX6_choose_91 : decode cX6_choose 91 = .ok (.getfield 19, 3) := by decide +kernel
theorem dX6_choose_94 : decode cX6_choose 94 = .ok (.iload 4, 2) := by decide +kernel
theorem dX6_choose_96 : decode cX6_choose 96 = .ok (.iaload, 1) := by decide +kernel
theorem dX6_choose_97 : decode cX6_choose 97 = .ok (.iastore, 1) := by decide +kernel
theorem dX6_choose_98 : decode cX6_choose 98 = .ok (.aload_n 0, 1) := by decide +kernel
theorem dX6_choose_99 : decode cX6_choose 99 = .ok (.iload_n 1, 1) := by decide +kernel
theorem dX6_choose_100 : decode cX6_choose 100 = .ok (.iconst 1, 1) := by decide +kernel
theorem dX6_choose_101 : decode cX6_choose 101 = .ok (.iadd, 1) := by decide +kernel
theorem dX6_choose_102 : decode cX6_choose 102 = .ok (.iload 4, 2) := by decide +kernel
theorem dX6_choose_104 : decode cX6_choose 104 = .ok (.iload_n 3, 1) := by decide +kernel
theorem dX6_choose_105 : decode cX6_choose 105 = .ok (.iload 5, 2) := by decide +kernel
theorem dX6_choose_107 : decode cX6_choose 107 = .ok (.isub, 1) := by decide +kernel
theorem dX6_choose_108 : decode cX6_choose 108 = .ok (.invokestatic 43, 3) := by decide +kernel
theorem dX6_choose_111 : decode cX6_choose 111 = .ok (.iinc 4 1, 3) := by decide +kernel
theorem dX6_choose_114 : decode cX6_choose 114 = .ok (.goto (-84), 3) := by decide +kernel
theorem dX6_choose_117 : decode cX6_choose 117 = .ok (.return_, 1) := by decide +kernel
theorem dX6_isFound_0 : decode cX6_isFound 0 = .ok (.aload_n 0, 1) := by decide +kernel
theorem dX6_isFound_1 : decode cX6_isFound 1 = .ok (.getfield 31, 3) := by decide +kernel
theorem dX6_isFound_4 : decode cX6_isFound 4 = .ok (.ifCond .lt 18, 3) := by decide +kernel
theorem dX6_isFound_7 : decode cX6_isFound 7 = .ok (.aload_n 0, 1) := by decide +kernel
theorem dX6_isFound_8 : decode cX6_isFound 8 = .ok (.getfield 9, 3) := by decide +kernel
theorem dX6_isFound_11 : decode cX6_isFound 11 = .ok (.aload_n 0, 1) := by decide +kernel
theorem dX6_isFound_12 : decode cX6_isFound 12 = .ok (.getfield 31, 3) := by decide +kernel
theorem dX6_isFound_15 : decode cX6_isFound 15 = .ok (.if_icmp .le 7, 3) := by decide +kernel
theorem dX6_isFound_18 : decode cX6_isFound 18 = .ok (.iconst 1, 1) := by decide +kernel
theorem dX6_isFound_19 : decode cX6_isFound 19 = .ok (.goto 4, 3) := by decide +kernel
theorem dX6_isFound_22 : decode cX6_isFound 22 = .ok (.iconst 0, 1) := by decide +kernel
theorem dX6_isFound_23 : decode cX6_isFound 23 = .ok (.ireturn, 1) := by decide +kernel
theorem dX7_init_0 : decode cX7_init 0 = .ok (.aload_n 0, 1) := by decide +kernel
theorem dX7_init_1 : decode cX7_init 1 = .ok (.invokespecial 1, 3) := by decide +kernel
theorem dX7_init_4 : decode cX7_init 4 = .ok (.aload_n 0, 1) := by decide +kernel
theorem dX7_init_5 : decode cX7_init 5 = .ok (.new 7, 3) := by decide +kernel
theorem dX7_init_8 : decode cX7_init 8 = .ok (.dup, 1) := by decide +kernel
theorem dX7_init_9 : decode cX7_init 9 = .ok (.invokespecial 9, 3) := by decide +kernel
theorem dX7_init_12 : decode cX7_init 12 = .ok (.putfield 10, 3) := by decide +kernel
theorem dX7_init_15 : decode cX7_init 15 = .ok (.aload_n 0, 1) := by decide +kernel
theorem dX7_init_16 : decode cX7_init 16 = .ok (.new 7, 3) := by decide +kernel
theorem dX7_init_19 : decode cX7_init 19 = .ok (.dup, 1) := by decide +kernel
theorem dX7_init_20 : decode cX7_init 20 = .ok (.invokespecial 9, 3) := by decide +kernel
theorem dX7_init_23 : decode cX7_init 23 = .ok (.putfield 16, 3) := by decide +kernel
theorem dX7_init_26 : decode cX7_init 26 = .ok (.aload_n 0, 1) := by decide +kernel
theorem dX7_init_27 : decode cX7_init 27 = .ok (.iconst 2, 1) := by decide +kernel
theorem dX7_init_28 : decode cX7_init 28 = .ok (.anewarray 7, 3) := by decide +kernel
theorem dX7_init_31 : decode cX7_init 31 = .ok (.putfield 19, 3) := by decide +kernel
theorem dX7_init_34 : decode cX7_init 34 = .ok (.aload_n 0, 1) := by decide +kernel
theorem dX7_init_35 : decode cX7_init 35 = .ok (.iconst 2, 1) := by decide +kernel
theorem dX7_init_36 : decode cX7_init 36 = .ok (.newarray .boolean, 2) := by decide +kernel
theorem dX7_init_38 : decode cX7_init 38 = .ok (.putfield 23, 3) := by decide +kernel
theorem dX7_init_41 : decode cX7_init 41 = .ok (.aload_n 0, 1) := by decide +kernel
theorem dX7_init_42 : decode cX7_init 42 = .ok (.new 27, 3) := by decide +kernel
theorem dX7_init_45 : decode cX7_init 45 = .ok (.dup, 1) := by decide +kernel
theorem dX7_init_46 : decode cX7_init 46 = .ok (.invokespecial 29, 3) := by decide +kernel
theorem dX7_init_49 : decode cX7_init 49 = .ok (.putfield 30, 3) := by decide +kernel
theorem dX7_init_52 : decode cX7_init 52 = .ok (.aload_n 0, 1) := by decide +kernel
theorem dX7_init_53 : decode cX7_init 53 = .ok (.new 27, 3) := by decide +kernel
theorem dX7_init_56 : decode cX7_init 56 = .ok (.dup, 1) := by decide +kernel
theorem dX7_init_57 : decode cX7_init 57 = .ok (.invokespecial 29, 3) := by decide +kernel
theorem dX7_init_60 : decode cX7_init 60 = .ok (.putfield 34, 3) := by decide +kernel
theorem dX7_init_63 : decode cX7_init 63 = .ok (.aload_n 0, 1) := by decide +kernel
theorem dX7_init_64 : decode cX7_init 64 = .ok (.new 37, 3) := by decide +kernel
theorem dX7_init_67 : decode cX7_init 67 = .ok (.dup, 1) := by decide +kernel
theorem dX7_init_68 : decode cX7_init 68 = .ok (.invokespecial 39, 3) := by decide +kernel
theorem dX7_init_71 : decode cX7_init 71 = .ok (.putfield 40, 3) := by decide +kernel
theorem dX7_init_74 : decode cX7_init 74 = .ok (.aload_n 0, 1) := by decide +kernel
theorem dX7_init_75 : decode cX7_init 75 = .ok (.new 44, 3) := by decide +kernel
theorem dX7_init_78 : decode cX7_init 78 = .ok (.dup, 1) := by decide +kernel
theorem dX7_init_79 : decode cX7_init 79 = .ok (.invokespecial 46, 3) := by decide +kernel
theorem dX7_init_82 : decode cX7_init 82 = .ok (.putfield 47, 3) := by decide +kernel
theorem dX7_init_85 : decode cX7_init 85 = .ok (.aload_n 0, 1) := by decide +kernel
theorem dX7_init_86 : decode cX7_init 86 = .ok (.new 51, 3) := by decide +kernel
theorem dX7_init_89 : decode cX7_init 89 = .ok (.dup, 1) := by decide +kernel
theorem dX7_init_90 : decode cX7_init 90 = .ok (.invokespecial 53, 3) := by decide +kernel
theorem dX7_init_93 : decode cX7_init 93 = .ok (.putfield 54, 3) := by decide +kernel
theorem dX7_init_96 : decode cX7_init 96 = .ok (.aload_n 0, 1) := by decide +kernel
theorem dX7_init_97 : decode cX7_init 97 = .ok (.sipush 201, 3) := by decide +kernel
theorem dX7_init_100 : decode cX7_init 100 = .ok (.newarray .int, 2) := by decide +kernel
theorem dX7_init_102 : decode cX7_init 102 = .ok (.putfield 58, 3) := by decide +kernel
theorem dX7_init_105 : decode cX7_init 105 = .ok (.aload_n 0, 1) := by decide +kernel
theorem dX7_init_106 : decode cX7_init 106 = .ok (.iconst 4, 1) := by decide +kernel
theorem dX7_init_107 : decode cX7_init 107 = .ok (.anewarray 62, 3) := by decide +kernel
theorem dX7_init_110 : decode cX7_init 110 = .ok (.putfield 64, 3) := by decide +kernel
theorem dX7_init_113 : decode cX7_init 113 = .ok (.aload_n 0, 1) := by decide +kernel
theorem dX7_init_114 : decode cX7_init 114 = .ok (.iconst 0, 1) := by decide +kernel
theorem dX7_init_115 : decode cX7_init 115 = .ok (.putfield 68, 3) := by decide +kernel
theorem dX7_init_118 : decode cX7_init 118 = .ok (.iconst 0, 1) := by decide +kernel
theorem dX7_init_119 : decode cX7_init 119 = .ok (.istore_n 1, 1) := by decide +kernel
theorem dX7_init_120 : decode cX7_init 120 = .ok (.iload_n 1, 1) := by decide +kernel
theorem dX7_init_121 : decode cX7_init 121 = .ok (.iconst 2, 1) := by decide +kernel
theorem dX7_init_122 : decode cX7_init 122 = .ok (.if_icmp .ge 22, 3) := by decide +kernel
theorem dX7_init_125 : decode cX7_init 125 = .ok (.aload_n 0, 1) := by decide +kernel
theorem dX7_init_126 : decode cX7_init 126 = .ok (.getfield 19, 3) := by decide +kernel
theorem dX7_init_129 : decode cX7_init 129 = .ok (.iload_n 1, 1) := by decide +kernel
theorem dX7_init_130 : decode cX7_init 130 = .ok (.new 7, 3) := by decide +kernel
theorem dX7_init_133 : decode cX7_init 133 = .ok (.dup, 1) := by decide +kernel
theorem dX7_init_134 : decode cX7_init 134 = .ok (.invokespecial 9, 3) := by decide +kernel
theorem dX7_init_137 : decode cX7_init 137 = .ok (.aastore, 1) := by decide +kernel
theorem dX7_init_138 : decode cX7_init 138 = .ok (.iinc 1 1, 3) := by decide +kernel
theorem dX7_init_141 : decode cX7_init 141 = .ok (.goto (-21), 3) := by decide +kernel
theorem dX7_init_144 : decode cX7_init 144 = .ok (.iconst 0, 1) := by decide +kernel
theorem dX7_init_145 : decode cX7_init 145 = .ok (.istore_n 1, 1) := by decide +kernel
theorem dX7_init_146 : decode cX7_init 146 = .ok (.iload_n 1, 1) := by decide +kernel
theorem dX7_init_147 : decode cX7_init 147 = .ok (.iconst 4, 1) := by decide +kernel
theorem dX7_init_148 : decode cX7_init 148 = .ok (.if_icmp .ge 22, 3) := by decide +kernel
theorem dX7_init_151 : decode cX7_init 151 = .ok (.aload_n 0, 1) := by decide +kernel
theorem dX7_init_152 : decode cX7_init 152 = .ok (.getfield 64, 3) := by decide +kernel
theorem dX7_init_155 : decode cX7_init 155 = .ok (.iload_n 1, 1) := by decide +kernel
theorem dX7_init_156 : decode cX7_init 156 = .ok (.new 62, 3) := by decide +kernel
theorem dX7_init_159 : decode cX7_init 159 = .ok (.dup, 1) := by decide +kernel
theorem dX7_init_160 : decode cX7_init 160 = .ok (.invokespecial 72, 3) := by decide +kernel
theorem dX7_init_163 : decode cX7_init 163 = .ok (.aastore, 1) := by decide +kernel
theorem dX7_init_164 : decode cX7_init 164 = .ok (.iinc 1 1, 3) := by decide +kernel
theorem dX7_init_167 : decode cX7_init 167 = .ok (.goto (-21), 3) := by decide +kernel
theorem dX7_init_170 : decode cX7_init 170 = .ok (.return_, 1) := by decide +kernel
theorem dX7_feed_0 : decode cX7_feed 0 = .ok (.iload_n 1, 1) := by decide +kernel
theorem dX7_feed_1 : decode cX7_feed 1 = .ok (.iconst 0, 1) := by decide +kernel
theorem dX7_feed_2 : decode cX7_feed 2 = .ok (.bipush 127, 2) := by decide +kernel
theorem dX7_feed_4 : decode cX7_feed 4 = .ok (.invokestatic 73, 3) := by decide +kernel
theorem dX7_feed_7 : decode cX7_feed 7 = .ok (.ifCond .ne 5, 3) := by decide +kernel
theorem dX7_feed_10 : decode cX7_feed 10 = .ok (.iconst (-1), 1) := by decide +kernel
theorem dX7_feed_11 : decode cX7_feed 11 = .ok (.ireturn, 1) := by decide +kernel
theorem dX7_feed_12 : decode cX7_feed 12 = .ok (.aload_n 0, 1) := by decide +kernel
theorem dX7_feed_13 : decode cX7_feed 13 = .ok (.getfield 40, 3) := by decide +kernel
theorem dX7_feed_16 : decode cX7_feed 16 = .ok (.getfield 77, 3) := by decide +kernel
theorem dX7_feed_19 : decode cX7_feed 19 = .ok (.iload_n 1, 1) := by decide +kernel
theorem dX7_feed_20 : decode cX7_feed 20 = .ok (.invokevirtual 81, 3) := by decide +kernel
theorem dX7_feed_23 : decode cX7_feed 23 = .ok (.ireturn, 1) := by decide +kernel
theorem dX7_end_0 : decode cX7_end 0 = .ok (.aload_n 0, 1) := by decide +kernel
theorem dX7_end_1 : decode cX7_end 1 = .ok (.getfield 40, 3) := by decide +kernel
theorem dX7_end_4 : decode cX7_end 4 = .ok (.getfield 77, 3) := by decide +kernel
theorem dX7_end_7 : decode cX7_end 7 = .ok (.getfield 87, 3) := by decide +kernel
theorem dX7_end_10 : decode cX7_end 10 = .ok (.istore_n 2, 1) := by decide +kernel
theorem dX7_end_11 : decode cX7_end 11 = .ok (.iload_n 1, 1) := by decide +kernel
theorem dX7_end_12 : decode cX7_end 12 = .ok (.iconst 0, 1) := by decide +kernel
theorem dX7_end_13 : decode cX7_end 13 = .ok (.iload_n 2, 1) := by decide +kernel
theorem dX7_end_14 : decode cX7_end 14 = .ok (.invokestatic 73, 3) := by decide +kernel
theorem dX7_end_17 : decode cX7_end 17 = .ok (.ifCond .ne 5, 3) := by decide +kernel
theorem dX7_end_20 : decode cX7_end 20 = .ok (.iconst (-1), 1) := by decide +kernel
theorem dX7_end_21 : decode cX7_end 21 = .ok (.ireturn, 1) := by decide +kernel
theorem dX7_end_22 : decode cX7_end 22 = .ok (.aload_n 0, 1) := by decide +kernel
theorem dX7_end_23 : decode cX7_end 23 = .ok (.getfield 40, 3) := by decide +kernel
theorem dX7_end_26 : decode cX7_end 26 = .ok (.getfield 77, 3) := by decide +kernel
theorem dX7_end_29 : decode cX7_end 29 = .ok (.iload_n 1, 1) := by decide +kernel
theorem dX7_end_30 : decode cX7_end 30 = .ok (.putfield 87, 3) := by decide +kernel
theorem dX7_end_33 : decode cX7_end 33 = .ok (.iload_n 2, 1) := by decide +kernel
theorem dX7_end_34 : decode cX7_end 34 = .ok (.ireturn, 1) := by decide +kernel
theorem dX7_text_0 : decode cX7_text 0 = .ok (.aload_n 0, 1) := by decide +kernel
theorem dX7_text_1 : decode cX7_text 1 = .ok (.getfield 40, 3) := by decide +kernel
theorem dX7_text_4 : decode cX7_text 4 = .ok (.invokevirtual 90, 3) := by decide +kernel
theorem dX7_text_7 : decode cX7_text 7 = .ok (.aload_n 0, 1) := by decide +kernel
theorem dX7_text_8 : decode cX7_text 8 = .ok (.getfield 40, 3) := by decide +kernel
theorem dX7_text_11 : decode cX7_text 11 = .ok (.getfield 77, 3) := by decide +kernel
theorem dX7_text_14 : decode cX7_text 14 = .ok (.iconst 0, 1) := by decide +kernel
theorem dX7_text_15 : decode cX7_text 15 = .ok (.putfield 87, 3) := by decide +kernel
theorem dX7_text_18 : decode cX7_text 18 = .ok (.aload_n 0, 1) := by decide +kernel
theorem dX7_text_19 : decode cX7_text 19 = .ok (.getfield 40, 3) := by decide +kernel
theorem dX7_text_22 : decode cX7_text 22 = .ok (.getfield 93, 3) := by decide +kernel
theorem dX7_text_25 : decode cX7_text 25 = .ok (.ifCond .eq 14, 3) := by decide +kernel
theorem dX7_text_28 : decode cX7_text 28 = .ok (.bipush (-10), 2) := by decide +kernel
theorem dX7_text_30 : decode cX7_text 30 = .ok (.aload_n 0, 1) := by decide +kernel
theorem dX7_text_31 : decode cX7_text 31 = .ok (.getfield 40, 3) := by decide +kernel
theorem dX7_text_34 : decode cX7_text 34 = .ok (.getfield 96, 3) := by decide +kernel
theorem dX7_text_37 : decode cX7_text 37 = .ok (.isub, 1) := by decide +kernel
theorem dX7_text_38 : decode cX7_text 38 = .ok (.ireturn, 1) := by decide +kernel
theorem dX7_text_39 : decode cX7_text 39 = .ok (.aload_n 0, 1) := by decide +kernel
theorem dX7_text_40 : decode cX7_text 40 = .ok (.getfield 10, 3) := by decide +kernel
theorem dX7_text_43 : decode cX7_text 43 = .ok (.aload_n 0, 1) := by decide +kernel
theorem dX7_text_44 : decode cX7_text 44 = .ok (.getfield 40, 3) := by decide +kernel
theorem dX7_text_47 : decode cX7_text 47 = .ok (.getfield 99, 3) := by decide +kernel
theorem dX7_text_50 : decode cX7_text 50 = .ok (.invokevirtual 102, 3) := by decide +kernel
theorem dX7_text_53 : decode cX7_text 53 = .ok (.iconst 0, 1) := by decide +kernel
theorem dX7_text_54 : decode cX7_text 54 = .ok (.istore_n 1, 1) := by decide +kernel
theorem dX7_text_55 : decode cX7_text 55 = .ok (.iload_n 1, 1) := by decide +kernel
theorem dX7_text_56 : decode cX7_text 56 = .ok (.iconst 2, 1) := by decide +kernel
theorem dX7_text_57 : decode cX7_text 57 = .ok (.if_icmp .ge 16, 3) := by decide +kernel
theorem dX7_text_60 : decode cX7_text 60 = .ok (.aload_n 0, 1) := by decide +kernel
theorem dX7_text_61 : decode cX7_text 61 = .ok (.getfield 23, 3) := by decide +kernel
theorem dX7_text_64 : decode cX7_text 64 = .ok (.iload_n 1, 1) := by decide +kernel
theorem dX7_text_65 : decode cX7_text 65 = .ok (.iconst 0, 1) := by decide +kernel
theorem dX7_text_66 : decode cX7_text 66 = .ok (.bastore, 1) := by decide +kernel
theorem dX7_text_67 : decode cX7_text 67 = .ok (.iinc 1 1, 3) := by decide +kernel
theorem dX7_text_70 : decode cX7_text 70 = .ok (.goto (-15), 3) := by decide +kernel
theorem dX7_text_73 : decode cX7_text 73 = .ok (.aload_n 0, 1) := by decide +kernel
theorem dX7_text_74 : decode cX7_text 74 = .ok (.getfield 40, 3) := by decide +kernel
theorem dX7_text_77 : decode cX7_text 77 = .ok (.getfield 106, 3) := by decide +kernel
theorem dX7_text_80 : decode cX7_text 80 = .ok (.ireturn, 1) := by decide +kernel
theorem dX7_fault_0 : decode cX7_fault 0 = .ok (.aload_n 0, 1) := by decide +kernel
theorem dX7_fault_1 : decode cX7_fault 1 = .ok (.getfield 40, 3) := by decide +kernel
theorem dX7_fault_4 : decode cX7_fault 4 = .ok (.getfield 93, 3) := by decide +kernel
theorem dX7_fault_7 : decode cX7_fault 7 = .ok (.ireturn, 1) := by decide +kernel
theorem dX7_rule_0 : decode cX7_rule 0 = .ok (.iload_n 1, 1) := by decide +kernel
theorem dX7_rule_1 : decode cX7_rule 1 = .ok (.tableswitch 98 0 4 #[35, 43, 51, 59, 90], 35) := by decide +kernel
theorem dX7_rule_36 : decode cX7_rule 36 = .ok (.aload_n 0, 1) := by decide +kernel
theorem dX7_rule_37 : decode cX7_rule 37 = .ok (.getfield 10, 3) := by decide +kernel
theorem dX7_rule_40 : decode cX7_rule 40 = .ok (.getfield 109, 3) := by decide +kernel
theorem dX7_rule_43 : decode cX7_rule 43 = .ok (.ireturn, 1) := by decide +kernel
theorem dX7_rule_44 : decode cX7_rule 44 = .ok (.aload_n 0, 1) := by decide +kernel
theorem dX7_rule_45 : decode cX7_rule 45 = .ok (.getfield 10, 3) := by decide +kernel
theorem dX7_rule_48 : decode cX7_rule 48 = .ok (.getfield 112, 3) := by decide +kernel
theorem dX7_rule_51 : decode cX7_rule 51 = .ok (.ireturn, 1) := by decide +kernel
theorem dX7_rule_52 : decode cX7_rule 52 = .ok (.aload_n 0, 1) := by decide +kernel
theorem dX7_rule_53 : decode cX7_rule 53 = .ok (.getfield 10, 3) := by decide +kernel
theorem dX7_rule_56 : decode cX7_rule 56 = .ok (.getfield 115, 3) := by decide +kernel
theorem dX7_rule_59 : decode cX7_rule 59 = .ok (.ireturn, 1) := by decide +kernel
theorem dX7_rule_60 : decode cX7_rule 60 = .ok (.aload_n 0, 1) := by decide +kernel
theorem dX7_rule_61 : decode cX7_rule 61 = .ok (.getfield 30, 3) := by decide +kernel
theorem dX7_rule_64 : decode cX7_rule 64 = .ok (.aload_n 0, 1) := by decide +kernel
theorem dX7_rule_65 : decode cX7_rule 65 = .ok (.getfield 10, 3) := by decide +kernel
theorem dX7_rule_68 : decode cX7_rule 68 = .ok (.invokevirtual 118, 3) := by decide +kernel
theorem dX7_rule_71 : decode cX7_rule 71 = .ok (.iconst 1, 1) := by decide +kernel
theorem dX7_rule_72 : decode cX7_rule 72 = .ok (.aload_n 0, 1) := by decide +kernel
theorem dX7_rule_73 : decode cX7_rule 73 = .ok (.getfield 30, 3) := by decide +kernel
theorem dX7_rule_76 : decode cX7_rule 76 = .ok (.getfield 121, 3) := by decide +kernel
theorem dX7_rule_79 : decode cX7_rule 79 = .ok (.aload_n 0, 1) := by decide +kernel
theorem dX7_rule_80 : decode cX7_rule 80 = .ok (.getfield 30, 3) := by decide +kernel
theorem dX7_rule_83 : decode cX7_rule 83 = .ok (.getfield 125, 3) := by decide +kernel
theorem dX7_rule_86 : decode cX7_rule 86 = .ok (.invokestatic 128, 3) := by decide +kernel
theorem dX7_rule_89 : decode cX7_rule 89 = .ok (.iadd, 1) := by decide +kernel
theorem dX7_rule_90 : decode cX7_rule 90 = .ok (.ireturn, 1) := by decide +kernel
theorem dX7_rule_91 : decode cX7_rule 91 = .ok (.aload_n 0, 1) := by decide +kernel
theorem dX7_rule_92 : decode cX7_rule 92 = .ok (.invokevirtual 134, 3) := by decide +kernel
theorem dX7_rule_95 : decode cX7_rule 95 = .ok (.invokevirtual 138, 3) := by decide +kernel
theorem dX7_rule_98 : decode cX7_rule 98 = .ok (.ireturn, 1) := by decide +kernel
theorem dX7_rule_99 : decode cX7_rule 99 = .ok (.iconst (-1), 1) := by decide +kernel
theorem dX7_rule_100 : decode cX7_rule 100 = .ok (.ireturn, 1) := by decide +kernel
theorem dX7_heir_0 : decode cX7_heir 0 = .ok (.aload_n 0, 1) := by decide +kernel
theorem dX7_heir_1 : decode cX7_heir 1 = .ok (.getfield 10, 3) := by decide +kernel
theorem dX7_heir_4 : decode cX7_heir 4 = .ok (.iload_n 1, 1) := by decide +kernel
theorem dX7_heir_5 : decode cX7_heir 5 = .ok (.invokevirtual 142, 3) := by decide +kernel
theorem dX7_heir_8 : decode cX7_heir 8 = .ok (.ifCond .ne 5, 3) := by decide +kernel
theorem dX7_heir_11 : decode cX7_heir 11 = .ok (.iconst (-1), 1) := by decide +kernel
theorem dX7_heir_12 : decode cX7_heir 12 = .ok (.ireturn, 1) := by decide +kernel
theorem dX7_heir_13 : decode cX7_heir 13 = .ok (.iload_n 2, 1) := by decide +kernel
theorem dX7_heir_14 : decode cX7_heir 14 = .ok (.tableswitch 76 0 3 #[30, 40, 50, 59], 30) := by decide +kernel
theorem dX7_heir_44 : decode cX7_heir 44 = .ok (.aload_n 0, 1) := by decide +kernel
theorem dX7_heir_45 : decode cX7_heir 45 = .ok (.getfield 10, 3) := by decide +kernel
theorem dX7_heir_48 : decode cX7_heir 48 = .ok (.getfield 146, 3) := by decide +kernel
theorem dX7_heir_51 : decode cX7_heir 51 = .ok (.iload_n 1, 1) := by decide +kernel
theorem dX7_heir_52 : decode cX7_heir 52 = .ok (.iaload, 1) := by decide +kernel
theorem dX7_heir_53 : decode cX7_heir 53 = .ok (.ireturn, 1) := by decide +kernel
theorem dX7_heir_54 : decode cX7_heir 54 = .ok (.aload_n 0, 1) := by decide +kernel
theorem dX7_heir_55 : decode cX7_heir 55 = .ok (.getfield 10, 3) := by decide +kernel
theorem dX7_heir_58 : decode cX7_heir 58 = .ok (.getfield 149, 3) := by decide +kernel
theorem dX7_heir_61 : decode cX7_heir 61 = .ok (.iload_n 1, 1) := by decide +kernel
theorem dX7_heir_62 : decode cX7_heir 62 = .ok (.iaload, 1) := by decide +kernel
theorem dX7_heir_63 : decode cX7_heir 63 = .ok (.ireturn, 1) := by decide +kernel
theorem dX7_heir_64 : decode cX7_heir 64 = .ok (.aload_n 0, 1) := by decide +kernel
theorem dX7_heir_65 : decode cX7_heir 65 = .ok (.invokevirtual 134, 3) := by decide +kernel
theorem dX7_heir_68 : decode cX7_heir 68 = .ok (.iload_n 1, 1) := by decide +kernel
theorem dX7_heir_69 : decode cX7_heir 69 = .ok (.invokevirtual 152, 3) := by decide +kernel
theorem dX7_heir_72 : decode cX7_heir 72 = .ok (.ireturn, 1) := by decide +kernel
theorem dX7_heir_73 : decode cX7_heir 73 = .ok (.aload_n 0, 1) := by decide +kernel
theorem dX7_heir_74 : decode cX7_heir 74 = .ok (.invokevirtual 134, 3) := by decide +kernel
theorem dX7_heir_77 : decode cX7_heir 77 = .ok (.iload_n 1, 1) := by decide +kernel
theorem dX7_heir_78 : decode cX7_heir 78 = .ok (.invokevirtual 155, 3) := by decide +kernel
theorem dX7_heir_81 : decode cX7_heir 81 = .ok (.ifCond .eq 7, 3) := by decide +kernel
theorem dX7_heir_84 : decode cX7_heir 84 = .ok (.iconst 1, 1) := by decide +kernel
theorem dX7_heir_85 : decode cX7_heir 85 = .ok (.goto 4, 3) := by decide +kernel
theorem dX7_heir_88 : decode cX7_heir 88 = .ok (.iconst 0, 1) := by decide +kernel
theorem dX7_heir_89 : decode cX7_heir 89 = .ok (.ireturn, 1) := by decide +kernel
theorem dX7_heir_90 : decode cX7_heir 90 = .ok (.iconst (-1), 1) := by decide +kernel
theorem dX7_heir_91 : decode cX7_heir 91 = .ok (.ireturn, 1) := by decide +kernel
theorem dX7_told_0 : decode cX7_told 0 = .ok (.aload_n 0, 1) := by decide +kernel
theorem dX7_told_1 : decode cX7_told 1 = .ok (.getfield 10, 3) := by decide +kernel
theorem dX7_told_4 : decode cX7_told 4 = .ok (.iload_n 1, 1) := by decide +kernel
theorem dX7_told_5 : decode cX7_told 5 = .ok (.invokevirtual 142, 3) := by decide +kernel
theorem dX7_told_8 : decode cX7_told 8 = .ok (.ifCond .eq 12, 3) := by decide +kernel
theorem dX7_told_11 : decode cX7_told 11 = .ok (.iload_n 2, 1) := by decide +kernel
theorem dX7_told_12 : decode cX7_told 12 = .ok (.iconst 0, 1) := by decide +kernel
theorem dX7_told_13 : decode cX7_told 13 = .ok (.iconst 1, 1) := by decide +kernel
theorem dX7_told_14 : decode cX7_told 14 = .ok (.invokestatic 73, 3) := by decide +kernel
theorem dX7_told_17 : decode cX7_told 17 = .ok (.ifCond .ne 7, 3) := by decide +kernel
theorem dX7_told_20 : decode cX7_told 20 = .ok (.ldc2_w 158, 3) := by decide +kernel
theorem dX7_told_23 : decode cX7_told 23 = .ok (.lreturn, 1) := by decide +kernel
theorem dX7_told_24 : decode cX7_told 24 = .ok (.aload_n 0, 1) := by decide +kernel
theorem dX7_told_25 : decode cX7_told 25 = .ok (.getfield 10, 3) := by decide +kernel
theorem dX7_told_28 : decode cX7_told 28 = .ok (.getfield 112, 3) := by decide +kernel
theorem dX7_told_31 : decode cX7_told 31 = .ok (.i2l, 1) := by decide +kernel
theorem dX7_told_32 : decode cX7_told 32 = .ok (.aload_n 0, 1) := by decide +kernel
theorem dX7_told_33 : decode cX7_told 33 = .ok (.getfield 10, 3) := by decide +kernel
theorem dX7_told_36 : decode cX7_told 36 = .ok (.getfield 146, 3) := by decide +kernel
theorem dX7_told_39 : decode cX7_told 39 = .ok (.iload_n 1, 1) := by decide +kernel
theorem dX7_told_40 : decode cX7_told 40 = .ok (.iaload, 1) := by decide +kernel
theorem dX7_told_41 : decode cX7_told 41 = .ok (.i2l, 1) := by decide +kernel
theorem dX7_told_42 : decode cX7_told 42 = .ok (.lmul, 1) := by decide +kernel
theorem dX7_told_43 : decode cX7_told 43 = .ok (.aload_n 0, 1) := by decide +kernel
theorem dX7_told_44 : decode cX7_told 44 = .ok (.getfield 10, 3) := by decide +kernel
theorem dX7_told_47 : decode cX7_told 47 = .ok (.getfield 149, 3) := by decide +kernel
theorem dX7_told_50 : decode cX7_told 50 = .ok (.iload_n 1, 1) := by decide +kernel
theorem dX7_told_51 : decode cX7_told 51 = .ok (.iaload, 1) := by decide +kernel
theorem dX7_told_52 : decode cX7_told 52 = .ok (.i2l, 1) := by decide +kernel
theorem dX7_told_53 : decode cX7_told 53 = .ok (.iload_n 2, 1) := by decide +kernel
theorem dX7_told_54 : decode cX7_told 54 = .ok (.invokestatic 160, 3) := by decide +kernel
theorem dX7_told_57 : decode cX7_told 57 = .ok (.lreturn, 1) := by decide +kernel
theorem dX7_sum_0 : decode cX7_sum 0 = .ok (.iload_n 1, 1) := by decide +kernel
theorem dX7_sum_1 : decode cX7_sum 1 = .ok (.iconst 0, 1) := by decide +kernel
theorem dX7_sum_2 : decode cX7_sum 2 = .ok (.iconst 1, 1) := by decide +kernel
theorem dX7_sum_3 : decode cX7_sum 3 = .ok (.invokestatic 73, 3) := by decide +kernel
theorem dX7_sum_6 : decode cX7_sum 6 = .ok (.ifCond .ne 7, 3) := by decide +kernel
theorem dX7_sum_9 : decode cX7_sum 9 = .ok (.ldc2_w 158, 3) := by decide +kernel
theorem dX7_sum_12 : decode cX7_sum 12 = .ok (.lreturn, 1) := by decide +kernel
theorem dX7_sum_13 : decode cX7_sum 13 = .ok (.aload_n 0, 1) := by decide +kernel
theorem dX7_sum_14 : decode cX7_sum 14 = .ok (.getfield 30, 3) := by decide +kernel
theorem dX7_sum_17 : decode cX7_sum 17 = .ok (.aload_n 0, 1) := by decide +kernel
theorem dX7_sum_18 : decode cX7_sum 18 = .ok (.getfield 10, 3) := by decide +kernel
theorem dX7_sum_21 : decode cX7_sum 21 = .ok (.invokevirtual 118, 3) := by decide +kernel
theorem dX7_sum_24 : decode cX7_sum 24 = .ok (.aload_n 0, 1) := by decide +kernel
theorem dX7_sum_25 : decode cX7_sum 25 = .ok (.getfield 30, 3) := by decide +kernel
theorem dX7_sum_28 : decode cX7_sum 28 = .ok (.getfield 121, 3) := by decide +kernel
theorem dX7_sum_31 : decode cX7_sum 31 = .ok (.aload_n 0, 1) := by decide +kernel
theorem dX7_sum_32 : decode cX7_sum 32 = .ok (.getfield 30, 3) := by decide +kernel
theorem dX7_sum_35 : decode cX7_sum 35 = .ok (.getfield 125, 3) := by decide +kernel
theorem dX7_sum_38 : decode cX7_sum 38 = .ok (.iload_n 1, 1) := by decide +kernel
theorem dX7_sum_39 : decode cX7_sum 39 = .ok (.invokestatic 160, 3) := by decide +kernel
theorem dX7_sum_42 : decode cX7_sum 42 = .ok (.lreturn, 1) := by decide +kernel
theorem dX7_over_0 : decode cX7_over 0 = .ok (.aload_n 0, 1) := by decide +kernel
theorem dX7_over_1 : decode cX7_over 1 = .ok (.getfield 10, 3) := by decide +kernel
theorem dX7_over_4 : decode cX7_over 4 = .ok (.iload_n 1, 1) := by decide +kernel
theorem dX7_over_5 : decode cX7_over 5 = .ok (.invokevirtual 142, 3) := by decide +kernel
theorem dX7_over_8 : decode cX7_over 8 = .ok (.ifCond .eq 12, 3) := by decide +kernel
theorem dX7_over_11 : decode cX7_over 11 = .ok (.iload_n 2, 1) := by decide +kernel
theorem dX7_over_12 : decode cX7_over 12 = .ok (.iconst 0, 1) := by decide +kernel
theorem dX7_over_13 : decode cX7_over 13 = .ok (.iconst 1, 1) := by decide +kernel
theorem dX7_over_14 : decode cX7_over 14 = .ok (.invokestatic 73, 3) := by decide +kernel
theorem dX7_over_17 : decode cX7_over 17 = .ok (.ifCond .ne 7, 3) := by decide +kernel
theorem dX7_over_20 : decode cX7_over 20 = .ok (.ldc2_w 158, 3) := by decide +kernel
theorem dX7_over_23 : decode cX7_over 23 = .ok (.lreturn, 1) := by decide +kernel
theorem dX7_over_24 : decode cX7_over 24 = .ok (.aload_n 0, 1) := by decide +kernel
theorem dX7_over_25 : decode cX7_over 25 = .ok (.invokevirtual 134, 3) := by decide +kernel
theorem dX7_over_28 : decode cX7_over 28 = .ok (.iload_n 1, 1) := by decide +kernel
theorem dX7_over_29 : decode cX7_over 29 = .ok (.invokevirtual 152, 3) := by decide +kernel
theorem dX7_over_32 : decode cX7_over 32 = .ok (.i2l, 1) := by decide +kernel
theorem dX7_over_33 : decode cX7_over 33 = .ok (.aload_n 0, 1) := by decide +kernel
theorem dX7_over_34 : decode cX7_over 34 = .ok (.getfield 10, 3) := by decide +kernel
theorem dX7_over_37 : decode cX7_over 37 = .ok (.getfield 149, 3) := by decide +kernel
theorem dX7_over_40 : decode cX7_over 40 = .ok (.iload_n 1, 1) := by decide +kernel
theorem dX7_over_41 : decode cX7_over 41 = .ok (.iaload, 1) := by decide +kernel
theorem dX7_over_42 : decode cX7_over 42 = .ok (.i2l, 1) := by decide +kernel
theorem dX7_over_43 : decode cX7_over 43 = .ok (.lmul, 1) := by decide +kernel
theorem dX7_over_44 : decode cX7_over 44 = .ok (.aload_n 0, 1) := by decide +kernel
theorem dX7_over_45 : decode cX7_over 45 = .ok (.getfield 10, 3) := by decide +kernel
theorem dX7_over_48 : decode cX7_over 48 = .ok (.getfield 112, 3) := by decide +kernel
theorem dX7_over_51 : decode cX7_over 51 = .ok (.i2l, 1) := by decide +kernel
theorem dX7_over_52 : decode cX7_over 52 = .ok (.aload_n 0, 1) := by decide +kernel
theorem dX7_over_53 : decode cX7_over 53 = .ok (.getfield 10, 3) := by decide +kernel
theorem dX7_over_56 : decode cX7_over 56 = .ok (.getfield 146, 3) := by decide +kernel
theorem dX7_over_59 : decode cX7_over 59 = .ok (.iload_n 1, 1) := by decide +kernel
theorem dX7_over_60 : decode cX7_over 60 = .ok (.iaload, 1) := by decide +kernel
theorem dX7_over_61 : decode cX7_over 61 = .ok (.i2l, 1) := by decide +kernel
theorem dX7_over_62 : decode cX7_over 62 = .ok (.lmul, 1) := by decide +kernel
theorem dX7_over_63 : decode cX7_over 63 = .ok (.lsub, 1) := by decide +kernel
theorem dX7_over_64 : decode cX7_over 64 = .ok (.lstore_n 3, 1) := by decide +kernel
theorem dX7_over_65 : decode cX7_over 65 = .ok (.lload_n 3, 1) := by decide +kernel
theorem dX7_over_66 : decode cX7_over 66 = .ok (.aload_n 0, 1) := by decide +kernel
theorem dX7_over_67 : decode cX7_over 67 = .ok (.getfield 10, 3) := by decide +kernel
theorem dX7_over_70 : decode cX7_over 70 = .ok (.getfield 149, 3) := by decide +kernel
theorem dX7_over_73 : decode cX7_over 73 = .ok (.iload_n 1, 1) := by decide +kernel
theorem dX7_over_74 : decode cX7_over 74 = .ok (.iaload, 1) := by decide +kernel
theorem dX7_over_75 : decode cX7_over 75 = .ok (.i2l, 1) := by decide +kernel
theorem dX7_over_76 : decode cX7_over 76 = .ok (.iload_n 2, 1) := by decide +kernel
theorem dX7_over_77 : decode cX7_over 77 = .ok (.invokestatic 160, 3) := by decide +kernel
theorem dX7_over_80 : decode cX7_over 80 = .ok (.lreturn, 1) := by decide +kernel
theorem dX7_alter_0 : decode cX7_alter 0 = .ok (.aload_n 0, 1) := by decide +kernel
theorem dX7_alter_1 : decode cX7_alter 1 = .ok (.getfield 10, 3) := by decide +kernel
theorem dX7_alter_4 : decode cX7_alter 4 = .ok (.iload_n 1, 1) := by decide +kernel
theorem dX7_alter_5 : decode cX7_alter 5 = .ok (.invokevirtual 142, 3) := by decide +kernel
theorem dX7_alter_8 : decode cX7_alter 8 = .ok (.ifCond .ne 5, 3) := by decide +kernel
theorem dX7_alter_11 : decode cX7_alter 11 = .ok (.iconst (-1), 1) := by decide +kernel
theorem dX7_alter_12 : decode cX7_alter 12 = .ok (.ireturn, 1) := by decide +kernel
theorem dX7_alter_13 : decode cX7_alter 13 = .ok (.iconst (-1), 1) := by decide +kernel
theorem dX7_alter_14 : decode cX7_alter 14 = .ok (.istore 4, 2) := by decide +kernel
theorem dX7_alter_16 : decode cX7_alter 16 = .ok (.iload_n 2, 1) := by decide +kernel
theorem dX7_alter_17 : decode cX7_alter 17 = .ok (.ifCond .ne 37, 3) := by decide +kernel
theorem dX7_alter_20 : decode cX7_alter 20 = .ok (.iload_n 3, 1) := by decide +kernel
theorem dX7_alter_21 : decode cX7_alter 21 = .ok (.iconst 1, 1) := by decide +kernel
theorem dX7_alter_22 : decode cX7_alter 22 = .ok (.bipush 9, 2) := by decide +kernel
theorem dX7_alter_24 : decode cX7_alter 24 = .ok (.invokestatic 73, 3) := by decide +kernel
theorem dX7_alter_27 : decode cX7_alter 27 = .ok (.ifCond .eq 27, 3) := by decide +kernel
theorem dX7_alter_30 : decode cX7_alter 30 = .ok (.aload_n 0, 1) := by decide +kernel
theorem dX7_alter_31 : decode cX7_alter 31 = .ok (.getfield 10, 3) := by decide +kernel
theorem dX7_alter_34 : decode cX7_alter 34 = .ok (.getfield 146, 3) := by decide +kernel
theorem dX7_alter_37 : decode cX7_alter 37 = .ok (.iload_n 1, 1) := by decide +kernel
theorem dX7_alter_38 : decode cX7_alter 38 = .ok (.iaload, 1) := by decide +kernel
theorem dX7_alter_39 : decode cX7_alter 39 = .ok (.istore 4, 2) := by decide +kernel
theorem dX7_alter_41 : decode cX7_alter 41 = .ok (.aload_n 0, 1) := by decide +kernel
theorem dX7_alter_42 : decode cX7_alter 42 = .ok (.getfield 10, 3) := by decide +kernel
theorem dX7_alter_45 : decode cX7_alter 45 = .ok (.getfield 146, 3) := by decide +kernel
theorem dX7_alter_48 : decode cX7_alter 48 = .ok (.iload_n 1, 1) := by decide +kernel
theorem dX7_alter_49 : decode cX7_alter 49 = .ok (.iload_n 3, 1) := by decide +kernel
theorem dX7_alter_50 : decode cX7_alter 50 = .ok (.iastore, 1) := by decide +kernel
theorem dX7_alter_51 : decode cX7_alter 51 = .ok (.goto 39, 3) := by decide +kernel
theorem dX7_alter_54 : decode cX7_alter 54 = .ok (.iload_n 2, 1) := by decide +kernel
theorem dX7_alter_55 : decode cX7_alter 55 = .ok (.iconst 1, 1) := by decide +kernel
theorem dX7_alter_56 : decode cX7_alter 56 = .ok (.if_icmp .ne 34, 3) := by decide +kernel
theorem dX7_alter_59 : decode cX7_alter 59 = .ok (.iload_n 3, 1) := by decide +kernel
theorem dX7_alter_60 : decode cX7_alter 60 = .ok (.iconst 1, 1) := by decide +kernel
theorem dX7_alter_61 : decode cX7_alter 61 = .ok (.bipush 99, 2) := by decide +kernel
theorem dX7_alter_63 : decode cX7_alter 63 = .ok (.invokestatic 73, 3) := by decide +kernel
theorem dX7_alter_66 : decode cX7_alter 66 = .ok (.ifCond .eq 24, 3) := by decide +kernel
theorem dX7_alter_69 : decode cX7_alter 69 = .ok (.aload_n 0, 1) := by decide +kernel
theorem dX7_alter_70 : decode cX7_alter 70 = .ok (.getfield 10, 3) := by decide +kernel
theorem dX7_alter_73 : decode cX7_alter 73 = .ok (.getfield 149, 3) := by decide +kernel
theorem dX7_alter_76 : decode cX7_alter 76 = .ok (.iload_n 1, 1) := by decide +kernel
theorem dX7_alter_77 : decode cX7_alter 77 = .ok (.iaload, 1) := by decide +kernel
theorem dX7_alter_78 : decode cX7_alter 78 = .ok (.istore 4, 2) := by decide +kernel
theorem dX7_alter_80 : decode cX7_alter 80 = .ok (.aload_n 0, 1) := by decide +kernel
theorem dX7_alter_81 : decode cX7_alter 81 = .ok (.getfield 10, 3) := by decide +kernel
theorem dX7_alter_84 : decode cX7_alter 84 = .ok (.getfield 149, 3) := by decide +kernel
theorem dX7_alter_87 : decode cX7_alter 87 = .ok (.iload_n 1, 1) := by decide +kernel
theorem dX7_alter_88 : decode cX7_alter 88 = .ok (.iload_n 3, 1) := by decide +kernel
theorem dX7_alter_89 : decode cX7_alter 89 = .ok (.iastore, 1) := by decide +kernel
theorem dX7_alter_90 : decode cX7_alter 90 = .ok (.iload 4, 2) := by decide +kernel
theorem dX7_alter_92 : decode cX7_alter 92 = .ok (.ireturn, 1) := by decide +kernel
theorem dX7_herd_0 : decode cX7_herd 0 = .ok (.iload_n 1, 1) := by decide +kernel
theorem dX7_herd_1 : decode cX7_herd 1 = .ok (.invokestatic 164, 3) := by decide +kernel
theorem dX7_herd_4 : decode cX7_herd 4 = .ok (.ifCond .ne 5, 3) := by decide +kernel
theorem dX7_herd_7 : decode cX7_herd 7 = .ok (.iconst (-1), 1) := by decide +kernel
theorem dX7_herd_8 : decode cX7_herd 8 = .ok (.ireturn, 1) := by decide +kernel
theorem dX7_herd_9 : decode cX7_herd 9 = .ok (.aload_n 0, 1) := by decide +kernel
theorem dX7_herd_10 : decode cX7_herd 10 = .ok (.getfield 10, 3) := by decide +kernel
theorem dX7_herd_13 : decode cX7_herd 13 = .ok (.getfield 112, 3) := by decide +kernel
theorem dX7_herd_16 : decode cX7_herd 16 = .ok (.istore_n 2, 1) := by decide +kernel
theorem dX7_herd_17 : decode cX7_herd 17 = .ok (.aload_n 0, 1) := by decide +kernel
theorem dX7_herd_18 : decode cX7_herd 18 = .ok (.getfield 10, 3) := by decide +kernel
theorem dX7_herd_21 : decode cX7_herd 21 = .ok (.iload_n 1, 1) := by decide +kernel
theorem dX7_herd_22 : decode cX7_herd 22 = .ok (.putfield 112, 3) := by decide +kernel
theorem dX7_herd_25 : decode cX7_herd 25 = .ok (.iload_n 2, 1) := by decide +kernel
theorem dX7_herd_26 : decode cX7_herd 26 = .ok (.ireturn, 1) := by decide +kernel
theorem dX7_judge_0 : decode cX7_judge 0 = .ok (.iload_n 1, 1) := by decide +kernel
theorem dX7_judge_1 : decode cX7_judge 1 = .ok (.invokestatic 167, 3) := by decide +kernel
theorem dX7_judge_4 : decode cX7_judge 4 = .ok (.ifCond .ne 5, 3) := by decide +kernel
theorem dX7_judge_7 : decode cX7_judge 7 = .ok (.iconst (-1), 1) := by decide +kernel
theorem dX7_judge_8 : decode cX7_judge 8 = .ok (.ireturn, 1) := by decide +kernel
theorem dX7_judge_9 : decode cX7_judge 9 = .ok (.aload_n 0, 1) := by decide +kernel
theorem dX7_judge_10 : decode cX7_judge 10 = .ok (.getfield 10, 3) := by decide +kernel
theorem dX7_judge_13 : decode cX7_judge 13 = .ok (.getfield 115, 3) := by decide +kernel
theorem dX7_judge_16 : decode cX7_judge 16 = .ok (.istore_n 2, 1) := by decide +kernel
theorem dX7_judge_17 : decode cX7_judge 17 = .ok (.aload_n 0, 1) := by decide +kernel
theorem dX7_judge_18 : decode cX7_judge 18 = .ok (.getfield 10, 3) := by decide +kernel
theorem dX7_judge_21 : decode cX7_judge 21 = .ok (.iload_n 1, 1) := by decide +kernel
theorem dX7_judge_22 : decode cX7_judge 22 = .ok (.putfield 115, 3) := by decide +kernel
theorem dX7_judge_25 : decode cX7_judge 25 = .ok (.iload_n 2, 1) := by decide +kernel
theorem dX7_judge_26 : decode cX7_judge 26 = .ok (.ireturn, 1) := by decide +kernel
theorem dX7_bear_0 : decode cX7_bear 0 = .ok (.aload_n 0, 1) := by decide +kernel
theorem dX7_bear_1 : decode cX7_bear 1 = .ok (.getfield 10, 3) := by decide +kernel
theorem dX7_bear_4 : decode cX7_bear 4 = .ok (.iload_n 1, 1) := by decide +kernel
theorem dX7_bear_5 : decode cX7_bear 5 = .ok (.iload_n 2, 1) := by decide +kernel
theorem dX7_bear_6 : decode cX7_bear 6 = .ok (.invokevirtual 170, 3) := by decide +kernel
theorem dX7_bear_9 : decode cX7_bear 9 = .ok (.ireturn, 1) := by decide +kernel
theorem dX7_dies_0 : decode cX7_dies 0 = .ok (.aload_n 0, 1) := by decide +kernel
theorem dX7_dies_1 : decode cX7_dies 1 = .ok (.getfield 10, 3) := by decide +kernel
theorem dX7_dies_4 : decode cX7_dies 4 = .ok (.iload_n 1, 1) := by decide +kernel
theorem dX7_dies_5 : decode cX7_dies 5 = .ok (.invokevirtual 142, 3) := by decide +kernel
theorem dX7_dies_8 : decode cX7_dies 8 = .ok (.ifCond .ne 5, 3) := by decide +kernel
theorem dX7_dies_11 : decode cX7_dies 11 = .ok (.iconst (-1), 1) := by decide +kernel
theorem dX7_dies_12 : decode cX7_dies 12 = .ok (.ireturn, 1) := by decide +kernel
theorem dX7_dies_13 : decode cX7_dies 13 = .ok (.aload_n 0, 1) := by decide +kernel
theorem dX7_dies_14 : decode cX7_dies 14 = .ok (.getfield 10, 3) := by decide +kernel
theorem dX7_dies_17 : decode cX7_dies 17 = .ok (.iload_n 1, 1) := by decide +kernel
theorem dX7_dies_18 : decode cX7_dies 18 = .ok (.invokevirtual 174, 3) := by decide +kernel
theorem dX7_dies_21 : decode cX7_dies 21 = .ok (.aload_n 0, 1) := by decide +kernel
theorem dX7_dies_22 : decode cX7_dies 22 = .ok (.getfield 10, 3) := by decide +kernel
theorem dX7_dies_25 : decode cX7_dies 25 = .ok (.getfield 109, 3) := by decide +kernel
theorem dX7_dies_28 : decode cX7_dies 28 = .ok (.ireturn, 1) := by decide +kernel
theorem dX7_lend_0 : decode cX7_lend 0 = .ok (.iload_n 1, 1) := by decide +kernel
theorem dX7_lend_1 : decode cX7_lend 1 = .ok (.iconst 0, 1) := by decide +kernel
theorem dX7_lend_2 : decode cX7_lend 2 = .ok (.iconst 1, 1) := by decide +kernel
theorem dX7_lend_3 : decode cX7_lend 3 = .ok (.invokestatic 73, 3) := by decide +kernel
theorem dX7_lend_6 : decode cX7_lend 6 = .ok (.ifCond .ne 5, 3) := by decide +kernel
theorem dX7_lend_9 : decode cX7_lend 9 = .ok (.iconst (-1), 1) := by decide +kernel
theorem dX7_lend_10 : decode cX7_lend 10 = .ok (.ireturn, 1) := by decide +kernel
theorem dX7_lend_11 : decode cX7_lend 11 = .ok (.iconst 0, 1) := by decide +kernel
theorem dX7_lend_12 : decode cX7_lend 12 = .ok (.istore_n 2, 1) := by decide +kernel
theorem dX7_lend_13 : decode cX7_lend 13 = .ok (.iload_n 2, 1) := by decide +kernel
theorem dX7_lend_14 : decode cX7_lend 14 = .ok (.sipush 999, 3) := by decide +kernel
theorem dX7_lend_17 : decode cX7_lend 17 = .ok (.if_icmp .gt 44, 3) := by decide +kernel
theorem dX7_lend_20 : decode cX7_lend 20 = .ok (.aload_n 0, 1) := by decide +kernel
theorem dX7_lend_21 : decode cX7_lend 21 = .ok (.aload_n 0, 1) := by decide +kernel
theorem dX7_lend_22 : decode cX7_lend 22 = .ok (.getfield 10, 3) := by decide +kernel
theorem dX7_lend_25 : decode cX7_lend 25 = .ok (.getfield 112, 3) := by decide +kernel
theorem dX7_lend_28 : decode cX7_lend 28 = .ok (.iload_n 2, 1) := by decide +kernel
theorem dX7_lend_29 : decode cX7_lend 29 = .ok (.iadd, 1) := by decide +kernel
theorem dX7_lend_30 : decode cX7_lend 30 = .ok (.invokevirtual 178, 3) := by decide +kernel
theorem dX7_lend_33 : decode cX7_lend 33 = .ok (.istore_n 3, 1) := by decide +kernel
theorem dX7_lend_34 : decode cX7_lend 34 = .ok (.iload_n 3, 1) := by decide +kernel
theorem dX7_lend_35 : decode cX7_lend 35 = .ok (.ifCond .lt 20, 3) := by decide +kernel
theorem dX7_lend_38 : decode cX7_lend 38 = .ok (.iload_n 1, 1) := by decide +kernel
theorem dX7_lend_39 : decode cX7_lend 39 = .ok (.ifCond .eq 14, 3) := by decide +kernel
theorem dX7_lend_42 : decode cX7_lend 42 = .ok (.iload_n 3, 1) := by decide +kernel
theorem dX7_lend_43 : decode cX7_lend 43 = .ok (.aload_n 0, 1) := by decide +kernel
theorem dX7_lend_44 : decode cX7_lend 44 = .ok (.getfield 10, 3) := by decide +kernel
theorem dX7_lend_47 : decode cX7_lend 47 = .ok (.getfield 112, 3) := by decide +kernel
theorem dX7_lend_50 : decode cX7_lend 50 = .ok (.if_icmp .ne 5, 3) := by decide +kernel
theorem dX7_lend_53 : decode cX7_lend 53 = .ok (.iload_n 2, 1) := by decide +kernel
theorem dX7_lend_54 : decode cX7_lend 54 = .ok (.ireturn, 1) := by decide +kernel
theorem dX7_lend_55 : decode cX7_lend 55 = .ok (.iinc 2 1, 3) := by decide +kernel
theorem dX7_lend_58 : decode cX7_lend 58 = .ok (.goto (-45), 3) := by decide +kernel
theorem dX7_lend_61 : decode cX7_lend 61 = .ok (.bipush (-4), 2) := by decide +kernel
theorem dX7_lend_63 : decode cX7_lend 63 = .ok (.ireturn, 1) := by decide +kernel
theorem dX7_share_0 : decode cX7_share 0 = .ok (.aload_n 0, 1) := by decide +kernel
theorem dX7_share_1 : decode cX7_share 1 = .ok (.getfield 10, 3) := by decide +kernel
theorem dX7_share_4 : decode cX7_share 4 = .ok (.iload_n 1, 1) := by decide +kernel
theorem dX7_share_5 : decode cX7_share 5 = .ok (.invokevirtual 142, 3) := by decide +kernel
theorem dX7_share_8 : decode cX7_share 8 = .ok (.ifCond .eq 14, 3) := by decide +kernel
theorem dX7_share_11 : decode cX7_share 11 = .ok (.iload_n 2, 1) := by decide +kernel
theorem dX7_share_12 : decode cX7_share 12 = .ok (.iconst 0, 1) := by decide +kernel
theorem dX7_share_13 : decode cX7_share 13 = .ok (.sipush 999, 3) := by decide +kernel
theorem dX7_share_16 : decode cX7_share 16 = .ok (.invokestatic 73, 3) := by decide +kernel
theorem dX7_share_19 : decode cX7_share 19 = .ok (.ifCond .ne 5, 3) := by decide +kernel
theorem dX7_share_22 : decode cX7_share 22 = .ok (.iconst (-1), 1) := by decide +kernel
theorem dX7_share_23 : decode cX7_share 23 = .ok (.ireturn, 1) := by decide +kernel
theorem dX7_share_24 : decode cX7_share 24 = .ok (.aload_n 0, 1) := by decide +kernel
theorem dX7_share_25 : decode cX7_share 25 = .ok (.iload_n 1, 1) := by decide +kernel
theorem dX7_share_26 : decode cX7_share 26 = .ok (.aload_n 0, 1) := by decide +kernel
theorem dX7_share_27 : decode cX7_share 27 = .ok (.getfield 10, 3) := by decide +kernel
theorem dX7_share_30 : decode cX7_share 30 = .ok (.getfield 112, 3) := by decide +kernel
theorem dX7_share_33 : decode cX7_share 33 = .ok (.iload_n 2, 1) := by decide +kernel
theorem dX7_share_34 : decode cX7_share 34 = .ok (.iadd, 1) := by decide +kernel
theorem dX7_share_35 : decode cX7_share 35 = .ok (.invokevirtual 181, 3) := by decide +kernel
theorem dX7_share_38 : decode cX7_share 38 = .ok (.ireturn, 1) := by decide +kernel
theorem dX7_wills_0 : decode cX7_wills 0 = .ok (.iload_n 1, 1) := by decide +kernel
theorem dX7_wills_1 : decode cX7_wills 1 = .ok (.iconst 1, 1) := by decide +kernel
theorem dX7_wills_2 : decode cX7_wills 2 = .ok (.iconst 4, 1) := by decide +kernel
theorem dX7_wills_3 : decode cX7_wills 3 = .ok (.invokestatic 73, 3) := by decide +kernel
theorem dX7_wills_6 : decode cX7_wills 6 = .ok (.ifCond .eq 13, 3) := by decide +kernel
theorem dX7_wills_9 : decode cX7_wills 9 = .ok (.iload_n 2, 1) := by decide +kernel
theorem dX7_wills_10 : decode cX7_wills 10 = .ok (.iconst 0, 1) := by decide +kernel
theorem dX7_wills_11 : decode cX7_wills 11 = .ok (.bipush 9, 2) := by decide +kernel
theorem dX7_wills_13 : decode cX7_wills 13 = .ok (.invokestatic 73, 3) := by decide +kernel
theorem dX7_wills_16 : decode cX7_wills 16 = .ok (.ifCond .ne 5, 3) := by decide +kernel
theorem dX7_wills_19 : decode cX7_wills 19 = .ok (.iconst (-1), 1) := by decide +kernel
theorem dX7_wills_20 : decode cX7_wills 20 = .ok (.ireturn, 1) := by decide +kernel
theorem dX7_wills_21 : decode cX7_wills 21 = .ok (.aload_n 0, 1) := by decide +kernel
theorem dX7_wills_22 : decode cX7_wills 22 = .ok (.getfield 47, 3) := by decide +kernel
theorem dX7_wills_25 : decode cX7_wills 25 = .ok (.aload_n 0, 1) := by decide +kernel
theorem dX7_wills_26 : decode cX7_wills 26 = .ok (.getfield 10, 3) := by decide +kernel
theorem dX7_wills_29 : decode cX7_wills 29 = .ok (.getfield 112, 3) := by decide +kernel
theorem dX7_wills_32 : decode cX7_wills 32 = .ok (.iload_n 2, 1) := by decide +kernel
theorem dX7_wills_33 : decode cX7_wills 33 = .ok (.iload_n 1, 1) := by decide +kernel
theorem dX7_wills_34 : decode cX7_wills 34 = .ok (.iconst (-1), 1) := by decide +kernel
theorem dX7_wills_35 : decode cX7_wills 35 = .ok (.invokevirtual 184, 3) := by decide +kernel
theorem dX7_wills_38 : decode cX7_wills 38 = .ok (.aload_n 0, 1) := by decide +kernel
theorem dX7_wills_39 : decode cX7_wills 39 = .ok (.getfield 47, 3) := by decide +kernel
theorem dX7_wills_42 : decode cX7_wills 42 = .ok (.getfield 188, 3) := by decide +kernel
theorem dX7_wills_45 : decode cX7_wills 45 = .ok (.ireturn, 1) := by decide +kernel
theorem dX7_will_0 : decode cX7_will 0 = .ok (.iload_n 1, 1) := by decide +kernel
theorem dX7_will_1 : decode cX7_will 1 = .ok (.iconst 1, 1) := by decide +kernel
theorem dX7_will_2 : decode cX7_will 2 = .ok (.iconst 4, 1) := by decide +kernel
theorem dX7_will_3 : decode cX7_will 3 = .ok (.invokestatic 73, 3) := by decide +kernel
theorem dX7_will_6 : decode cX7_will 6 = .ok (.ifCond .eq 29, 3) := by decide +kernel
theorem dX7_will_9 : decode cX7_will 9 = .ok (.iload_n 2, 1) := by decide +kernel
theorem dX7_will_10 : decode cX7_will 10 = .ok (.iconst 0, 1) := by decide +kernel
theorem dX7_will_11 : decode cX7_will 11 = .ok (.bipush 9, 2) := by decide +kernel
theorem dX7_will_13 : decode cX7_will 13 = .ok (.invokestatic 73, 3) := by decide +kernel
theorem dX7_will_16 : decode cX7_will 16 = .ok (.ifCond .eq 19, 3) := by decide +kernel
theorem dX7_will_19 : decode cX7_will 19 = .ok (.iload_n 3, 1) := by decide +kernel
theorem dX7_will_20 : decode cX7_will 20 = .ok (.ifCond .lt 15, 3) := by decide +kernel
theorem dX7_will_23 : decode cX7_will 23 = .ok (.iload 4, 2) := by decide +kernel
theorem dX7_will_25 : decode cX7_will 25 = .ok (.iconst 0, 1) := by decide +kernel
theorem dX7_will_26 : decode cX7_will 26 = .ok (.iload_n 1, 1) := by decide +kernel
theorem dX7_will_27 : decode cX7_will 27 = .ok (.iconst 1, 1) := by decide +kernel
theorem dX7_will_28 : decode cX7_will 28 = .ok (.isub, 1) := by decide +kernel
theorem dX7_will_29 : decode cX7_will 29 = .ok (.invokestatic 73, 3) := by decide +kernel
theorem dX7_will_32 : decode cX7_will 32 = .ok (.ifCond .ne 5, 3) := by decide +kernel
theorem dX7_will_35 : decode cX7_will 35 = .ok (.iconst (-1), 1) := by decide +kernel
theorem dX7_will_36 : decode cX7_will 36 = .ok (.ireturn, 1) := by decide +kernel
theorem dX7_will_37 : decode cX7_will 37 = .ok (.aload_n 0, 1) := by decide +kernel
theorem dX7_will_38 : decode cX7_will 38 = .ok (.getfield 47, 3) := by decide +kernel
theorem dX7_will_41 : decode cX7_will 41 = .ok (.aload_n 0, 1) := by decide +kernel
theorem dX7_will_42 : decode cX7_will 42 = .ok (.getfield 10, 3) := by decide +kernel
theorem dX7_will_45 : decode cX7_will 45 = .ok (.getfield 112, 3) := by decide +kernel
theorem dX7_will_48 : decode cX7_will 48 = .ok (.iload_n 2, 1) := by decide +kernel
theorem dX7_will_49 : decode cX7_will 49 = .ok (.iload_n 1, 1) := by decide +kernel
theorem dX7_will_50 : decode cX7_will 50 = .ok (.iload_n 3, 1) := by decide +kernel
theorem dX7_will_51 : decode cX7_will 51 = .ok (.invokevirtual 184, 3) := by decide +kernel
theorem dX7_will_54 : decode cX7_will 54 = .ok (.aload_n 0, 1) := by decide +kernel
theorem dX7_will_55 : decode cX7_will 55 = .ok (.getfield 47, 3) := by decide +kernel
theorem dX7_will_58 : decode cX7_will 58 = .ok (.getfield 188, 3) := by decide +kernel
theorem dX7_will_61 : decode cX7_will 61 = .ok (.iload_n 3, 1) := by decide +kernel
theorem dX7_will_62 : decode cX7_will 62 = .ok (.if_icmp .le 16, 3) := by decide +kernel
theorem dX7_will_65 : decode cX7_will 65 = .ok (.aload_n 0, 1) := by decide +kernel
theorem dX7_will_66 : decode cX7_will 66 = .ok (.getfield 47, 3) := by decide +kernel
theorem dX7_will_69 : decode cX7_will 69 = .ok (.getfield 191, 3) := by decide +kernel
theorem dX7_will_72 : decode cX7_will 72 = .ok (.iload 4, 2) := by decide +kernel
theorem dX7_will_74 : decode cX7_will 74 = .ok (.iaload, 1) := by decide +kernel
theorem dX7_will_75 : decode cX7_will 75 = .ok (.goto 5, 3) := by decide +kernel
theorem dX7_will_78 : decode cX7_will 78 = .ok (.bipush (-4), 2) := by decide +kernel
theorem dX7_will_80 : decode cX7_will 80 = .ok (.ireturn, 1) := by decide +kernel
theorem dX7_by_0 : decode cX7_by 0 = .ok (.iload_n 1, 1) := by decide +kernel
theorem dX7_by_1 : decode cX7_by 1 = .ok (.invokestatic 167, 3) := by decide +kernel
theorem dX7_by_4 : decode cX7_by 4 = .ok (.ifCond .eq 14, 3) := by decide +kernel
theorem dX7_by_7 : decode cX7_by 7 = .ok (.aload_n 0, 1) := by decide +kernel
theorem dX7_by_8 : decode cX7_by 8 = .ok (.getfield 10, 3) := by decide +kernel
theorem dX7_by_11 : decode cX7_by 11 = .ok (.iload_n 2, 1) := by decide +kernel
theorem dX7_by_12 : decode cX7_by 12 = .ok (.invokevirtual 142, 3) := by decide +kernel
theorem dX7_by_15 : decode cX7_by 15 = .ok (.ifCond .ne 5, 3) := by decide +kernel
theorem dX7_by_18 : decode cX7_by 18 = .ok (.iconst (-1), 1) := by decide +kernel
theorem dX7_by_19 : decode cX7_by 19 = .ok (.ireturn, 1) := by decide +kernel
theorem dX7_by_20 : decode cX7_by 20 = .ok (.aload_n 0, 1) := by decide +kernel
theorem dX7_by_21 : decode cX7_by 21 = .ok (.getfield 30, 3) := by decide +kernel
theorem dX7_by_24 : decode cX7_by 24 = .ok (.aload_n 0, 1) := by decide +kernel
theorem dX7_by_25 : decode cX7_by 25 = .ok (.getfield 10, 3) := by decide +kernel
theorem dX7_by_28 : decode cX7_by 28 = .ok (.invokevirtual 118, 3) := by decide +kernel
theorem dX7_by_31 : decode cX7_by 31 = .ok (.aload_n 0, 1) := by decide +kernel
theorem dX7_by_32 : decode cX7_by 32 = .ok (.getfield 30, 3) := by decide +kernel
theorem dX7_by_35 : decode cX7_by 35 = .ok (.iload_n 1, 1) := by decide +kernel
theorem dX7_by_36 : decode cX7_by 36 = .ok (.aload_n 0, 1) := by decide +kernel
theorem dX7_by_37 : decode cX7_by 37 = .ok (.getfield 10, 3) := by decide +kernel
theorem dX7_by_40 : decode cX7_by 40 = .ok (.getfield 112, 3) := by decide +kernel
theorem dX7_by_43 : decode cX7_by 43 = .ok (.invokevirtual 194, 3) := by decide +kernel
theorem dX7_by_46 : decode cX7_by 46 = .ok (.aload_n 0, 1) := by decide +kernel
theorem dX7_by_47 : decode cX7_by 47 = .ok (.getfield 30, 3) := by decide +kernel
theorem dX7_by_50 : decode cX7_by 50 = .ok (.iload_n 2, 1) := by decide +kernel
theorem dX7_by_51 : decode cX7_by 51 = .ok (.invokevirtual 152, 3) := by decide +kernel
theorem dX7_by_54 : decode cX7_by 54 = .ok (.ireturn, 1) := by decide +kernel
theorem dX7_of_0 : decode cX7_of 0 = .ok (.iload_n 1, 1) := by decide +kernel
theorem dX7_of_1 : decode cX7_of 1 = .ok (.invokestatic 164, 3) := by decide +kernel
theorem dX7_of_4 : decode cX7_of 4 = .ok (.ifCond .eq 14, 3) := by decide +kernel
theorem dX7_of_7 : decode cX7_of 7 = .ok (.aload_n 0, 1) := by decide +kernel
theorem dX7_of_8 : decode cX7_of 8 = .ok (.getfield 10, 3) := by decide +kernel
theorem dX7_of_11 : decode cX7_of 11 = .ok (.iload_n 2, 1) := by decide +kernel
theorem dX7_of_12 : decode cX7_of 12 = .ok (.invokevirtual 142, 3) := by decide +kernel
theorem dX7_of_15 : decode cX7_of 15 = .ok (.ifCond .ne 5, 3) := by decide +kernel
theorem dX7_of_18 : decode cX7_of 18 = .ok (.iconst (-1), 1) := by decide +kernel
theorem dX7_of_19 : decode cX7_of 19 = .ok (.ireturn, 1) := by decide +kernel
theorem dX7_of_20 : decode cX7_of 20 = .ok (.aload_n 0, 1) := by decide +kernel
theorem dX7_of_21 : decode cX7_of 21 = .ok (.iload_n 1, 1) := by decide +kernel
theorem dX7_of_22 : decode cX7_of 22 = .ok (.invokevirtual 198, 3) := by decide +kernel
theorem dX7_of_25 : decode cX7_of 25 = .ok (.iload_n 2, 1) := by decide +kernel
theorem dX7_of_26 : decode cX7_of 26 = .ok (.invokevirtual 152, 3) := by decide +kernel
theorem dX7_of_29 : decode cX7_of 29 = .ok (.ireturn, 1) := by decide +kernel
theorem dX7_loses_0 : decode cX7_loses 0 = .ok (.iload_n 1, 1) := by decide +kernel
theorem dX7_loses_1 : decode cX7_loses 1 = .ok (.iconst 0, 1) := by decide +kernel
theorem dX7_loses_2 : decode cX7_loses 2 = .ok (.sipush 200, 3) := by decide +kernel
theorem dX7_loses_5 : decode cX7_loses 5 = .ok (.invokestatic 73, 3) := by decide +kernel
theorem dX7_loses_8 : decode cX7_loses 8 = .ok (.ifCond .eq 12, 3) := by decide +kernel
theorem dX7_loses_11 : decode cX7_loses 11 = .ok (.iload_n 2, 1) := by decide +kernel
theorem dX7_loses_12 : decode cX7_loses 12 = .ok (.iconst 0, 1) := by decide +kernel
theorem dX7_loses_13 : decode cX7_loses 13 = .ok (.iconst 1, 1) := by decide +kernel
theorem dX7_loses_14 : decode cX7_loses 14 = .ok (.invokestatic 73, 3) := by decide +kernel
theorem dX7_loses_17 : decode cX7_loses 17 = .ok (.ifCond .ne 5, 3) := by decide +kernel
theorem dX7_loses_20 : decode cX7_loses 20 = .ok (.iconst (-1), 1) := by decide +kernel
theorem dX7_loses_21 : decode cX7_loses 21 = .ok (.ireturn, 1) := by decide +kernel
theorem dX7_loses_22 : decode cX7_loses 22 = .ok (.aload_n 0, 1) := by decide +kernel
theorem dX7_loses_23 : decode cX7_loses 23 = .ok (.iconst 0, 1) := by decide +kernel
theorem dX7_loses_24 : decode cX7_loses 24 = .ok (.invokevirtual 198, 3) := by decide +kernel
theorem dX7_loses_27 : decode cX7_loses 27 = .ok (.pop, 1) := by decide +kernel
theorem dX7_loses_28 : decode cX7_loses 28 = .ok (.iconst 0, 1) := by decide +kernel
theorem dX7_loses_29 : decode cX7_loses 29 = .ok (.istore_n 3, 1) := by decide +kernel
theorem dX7_loses_30 : decode cX7_loses 30 = .ok (.iload_n 3, 1) := by decide +kernel
theorem dX7_loses_31 : decode cX7_loses 31 = .ok (.iload_n 1, 1) := by decide +kernel
theorem dX7_loses_32 : decode cX7_loses 32 = .ok (.if_icmp .gt 41, 3) := by decide +kernel
theorem dX7_loses_35 : decode cX7_loses 35 = .ok (.aload_n 0, 1) := by decide +kernel
theorem dX7_loses_36 : decode cX7_loses 36 = .ok (.getfield 30, 3) := by decide +kernel
theorem dX7_loses_39 : decode cX7_loses 39 = .ok (.invokevirtual 202, 3) := by decide +kernel
theorem dX7_loses_42 : decode cX7_loses 42 = .ok (.aload_n 0, 1) := by decide +kernel
theorem dX7_loses_43 : decode cX7_loses 43 = .ok (.getfield 30, 3) := by decide +kernel
theorem dX7_loses_46 : decode cX7_loses 46 = .ok (.invokevirtual 205, 3) := by decide +kernel
theorem dX7_loses_49 : decode cX7_loses 49 = .ok (.istore 4, 2) := by decide +kernel
theorem dX7_loses_51 : decode cX7_loses 51 = .ok (.iload 4, 2) := by decide +kernel
theorem dX7_loses_53 : decode cX7_loses 53 = .ok (.ifCond .lt 14, 3) := by decide +kernel
theorem dX7_loses_56 : decode cX7_loses 56 = .ok (.iload_n 2, 1) := by decide +kernel
theorem dX7_loses_57 : decode cX7_loses 57 = .ok (.ifCond .ne 7, 3) := by decide +kernel
theorem dX7_loses_60 : decode cX7_loses 60 = .ok (.iload_n 3, 1) := by decide +kernel
theorem dX7_loses_61 : decode cX7_loses 61 = .ok (.goto 5, 3) := by decide +kernel
theorem dX7_loses_64 : decode cX7_loses 64 = .ok (.iload 4, 2) := by decide +kernel
theorem dX7_loses_66 : decode cX7_loses 66 = .ok (.ireturn, 1) := by decide +kernel
theorem dX7_loses_67 : decode cX7_loses 67 = .ok (.iinc 3 1, 3) := by decide +kernel
theorem dX7_loses_70 : decode cX7_loses 70 = .ok (.goto (-40), 3) := by decide +kernel
theorem dX7_loses_73 : decode cX7_loses 73 = .ok (.bipush (-4), 2) := by decide +kernel
theorem dX7_loses_75 : decode cX7_loses 75 = .ok (.ireturn, 1) := by decide +kernel
theorem dX7_keeps_0 : decode cX7_keeps 0 = .ok (.iload_n 1, 1) := by decide +kernel
theorem dX7_keeps_1 : decode cX7_keeps 1 = .ok (.iconst 0, 1) := by decide +kernel
theorem dX7_keeps_2 : decode cX7_keeps 2 = .ok (.sipush 200, 3) := by decide +kernel
theorem dX7_keeps_5 : decode cX7_keeps 5 = .ok (.invokestatic 73, 3) := by decide +kernel
theorem dX7_keeps_8 : decode cX7_keeps 8 = .ok (.ifCond .eq 12, 3) := by decide +kernel
theorem dX7_keeps_11 : decode cX7_keeps 11 = .ok (.iload_n 2, 1) := by decide +kernel
theorem dX7_keeps_12 : decode cX7_keeps 12 = .ok (.iconst 0, 1) := by decide +kernel
theorem dX7_keeps_13 : decode cX7_keeps 13 = .ok (.iconst 1, 1) := by decide +kernel
theorem dX7_keeps_14 : decode cX7_keeps 14 = .ok (.invokestatic 73, 3) := by decide +kernel
theorem dX7_keeps_17 : decode cX7_keeps 17 = .ok (.ifCond .ne 5, 3) := by decide +kernel
theorem dX7_keeps_20 : decode cX7_keeps 20 = .ok (.iconst (-1), 1) := by decide +kernel
theorem dX7_keeps_21 : decode cX7_keeps 21 = .ok (.ireturn, 1) := by decide +kernel
theorem dX7_keeps_22 : decode cX7_keeps 22 = .ok (.aload_n 0, 1) := by decide +kernel
theorem dX7_keeps_23 : decode cX7_keeps 23 = .ok (.iconst 0, 1) := by decide +kernel
theorem dX7_keeps_24 : decode cX7_keeps 24 = .ok (.invokevirtual 198, 3) := by decide +kernel
theorem dX7_keeps_27 : decode cX7_keeps 27 = .ok (.pop, 1) := by decide +kernel
theorem dX7_keeps_28 : decode cX7_keeps 28 = .ok (.iconst 0, 1) := by decide +kernel
theorem dX7_keeps_29 : decode cX7_keeps 29 = .ok (.istore_n 3, 1) := by decide +kernel
theorem dX7_keeps_30 : decode cX7_keeps 30 = .ok (.iload_n 3, 1) := by decide +kernel
theorem dX7_keeps_31 : decode cX7_keeps 31 = .ok (.iload_n 1, 1) := by decide +kernel
theorem dX7_keeps_32 : decode cX7_keeps 32 = .ok (.if_icmp .gt 41, 3) := by decide +kernel
theorem dX7_keeps_35 : decode cX7_keeps 35 = .ok (.aload_n 0, 1) := by decide +kernel
theorem dX7_keeps_36 : decode cX7_keeps 36 = .ok (.getfield 30, 3) := by decide +kernel
theorem dX7_keeps_39 : decode cX7_keeps 39 = .ok (.invokevirtual 208, 3) := by decide +kernel
theorem dX7_keeps_42 : decode cX7_keeps 42 = .ok (.istore 4, 2) := by decide +kernel
theorem dX7_keeps_44 : decode cX7_keeps 44 = .ok (.iload 4, 2) := by decide +kernel
theorem dX7_keeps_46 : decode cX7_keeps 46 = .ok (.ifCond .lt 14, 3) := by decide +kernel
theorem dX7_keeps_49 : decode cX7_keeps 49 = .ok (.iload_n 2, 1) := by decide +kernel
theorem dX7_keeps_50 : decode cX7_keeps 50 = .ok (.ifCond .ne 7, 3) := by decide +kernel
theorem dX7_keeps_53 : decode cX7_keeps 53 = .ok (.iload_n 3, 1) := by decide +kernel
theorem dX7_keeps_54 : decode cX7_keeps 54 = .ok (.goto 5, 3) := by decide +kernel
theorem dX7_keeps_57 : decode cX7_keeps 57 = .ok (.iload 4, 2) := by decide +kernel
theorem dX7_keeps_59 : decode cX7_keeps 59 = .ok (.ireturn, 1) := by decide +kernel
theorem dX7_keeps_60 : decode cX7_keeps 60 = .ok (.aload_n 0, 1) := by decide +kernel
theorem dX7_keeps_61 : decode cX7_keeps 61 = .ok (.getfield 30, 3) := by decide +kernel
theorem dX7_keeps_64 : decode cX7_keeps 64 = .ok (.invokevirtual 202, 3) := by decide +kernel
theorem dX7_keeps_67 : decode cX7_keeps 67 = .ok (.iinc 3 1, 3) := by decide +kernel
theorem dX7_keeps_70 : decode cX7_keeps 70 = .ok (.goto (-40), 3) := by decide +kernel
theorem dX7_keeps_73 : decode cX7_keeps 73 = .ok (.bipush (-4), 2) := by decide +kernel
theorem dX7_keeps_75 : decode cX7_keeps 75 = .ok (.ireturn, 1) := by decide +kernel
theorem dX7_unlike_0 : decode cX7_unlike 0 = .ok (.iload_n 1, 1) := by decide +kernel
theorem dX7_unlike_1 : decode cX7_unlike 1 = .ok (.invokestatic 167, 3) := by decide +kernel
theorem dX7_unlike_4 : decode cX7_unlike 4 = .ok (.ifCond .eq 15, 3) := by decide +kernel
theorem dX7_unlike_7 : decode cX7_unlike 7 = .ok (.iload_n 2, 1) := by decide +kernel
theorem dX7_unlike_8 : decode cX7_unlike 8 = .ok (.invokestatic 167, 3) := by decide +kernel
theorem dX7_unlike_11 : decode cX7_unlike 11 = .ok (.ifCond .eq 8, 3) := by decide +kernel
theorem dX7_unlike_14 : decode cX7_unlike 14 = .ok (.iload_n 1, 1) := by decide +kernel
theorem dX7_unlike_15 : decode cX7_unlike 15 = .ok (.iload_n 2, 1) := by decide +kernel
theorem dX7_unlike_16 : decode cX7_unlike 16 = .ok (.if_icmp .ne 5, 3) := by decide +kernel
theorem dX7_unlike_19 : decode cX7_unlike 19 = .ok (.iconst (-1), 1) := by decide +kernel
theorem dX7_unlike_20 : decode cX7_unlike 20 = .ok (.ireturn, 1) := by decide +kernel
theorem dX7_unlike_21 : decode cX7_unlike 21 = .ok (.aload_n 0, 1) := by decide +kernel
theorem dX7_unlike_22 : decode cX7_unlike 22 = .ok (.getfield 30, 3) := by decide +kernel
theorem dX7_unlike_25 : decode cX7_unlike 25 = .ok (.aload_n 0, 1) := by decide +kernel
theorem dX7_unlike_26 : decode cX7_unlike 26 = .ok (.getfield 10, 3) := by decide +kernel
theorem dX7_unlike_29 : decode cX7_unlike 29 = .ok (.invokevirtual 118, 3) := by decide +kernel
theorem dX7_unlike_32 : decode cX7_unlike 32 = .ok (.aload_n 0, 1) := by decide +kernel
theorem dX7_unlike_33 : decode cX7_unlike 33 = .ok (.getfield 30, 3) := by decide +kernel
theorem dX7_unlike_36 : decode cX7_unlike 36 = .ok (.iload_n 1, 1) := by decide +kernel
theorem dX7_unlike_37 : decode cX7_unlike 37 = .ok (.iconst 0, 1) := by decide +kernel
theorem dX7_unlike_38 : decode cX7_unlike 38 = .ok (.invokevirtual 194, 3) := by decide +kernel
theorem dX7_unlike_41 : decode cX7_unlike 41 = .ok (.aload_n 0, 1) := by decide +kernel
theorem dX7_unlike_42 : decode cX7_unlike 42 = .ok (.getfield 34, 3) := by decide +kernel
theorem dX7_unlike_45 : decode cX7_unlike 45 = .ok (.aload_n 0, 1) := by decide +kernel
theorem dX7_unlike_46 : decode cX7_unlike 46 = .ok (.getfield 10, 3) := by decide +kernel
theorem dX7_unlike_49 : decode cX7_unlike 49 = .ok (.invokevirtual 118, 3) := by decide +kernel
theorem dX7_unlike_52 : decode cX7_unlike 52 = .ok (.aload_n 0, 1) := by decide +kernel
theorem dX7_unlike_53 : decode cX7_unlike 53 = .ok (.getfield 34, 3) := by decide +kernel
theorem dX7_unlike_56 : decode cX7_unlike 56 = .ok (.iload_n 2, 1) := by decide +kernel
theorem dX7_unlike_57 : decode cX7_unlike 57 = .ok (.iconst 0, 1) := by decide +kernel
theorem dX7_unlike_58 : decode cX7_unlike 58 = .ok (.invokevirtual 194, 3) := by decide +kernel
theorem dX7_unlike_61 : decode cX7_unlike 61 = .ok (.iconst 0, 1) := by decide +kernel
theorem dX7_unlike_62 : decode cX7_unlike 62 = .ok (.istore_n 3, 1) := by decide +kernel
theorem dX7_unlike_63 : decode cX7_unlike 63 = .ok (.iload_n 3, 1) := by decide +kernel
theorem dX7_unlike_64 : decode cX7_unlike 64 = .ok (.sipush 200, 3) := by decide +kernel
theorem dX7_unlike_67 : decode cX7_unlike 67 = .ok (.if_icmp .gt 39, 3) := by decide +kernel
theorem dX7_unlike_70 : decode cX7_unlike 70 = .ok (.aload_n 0, 1) := by decide +kernel
theorem dX7_unlike_71 : decode cX7_unlike 71 = .ok (.getfield 30, 3) := by decide +kernel
theorem dX7_unlike_74 : decode cX7_unlike 74 = .ok (.aload_n 0, 1) := by decide +kernel
theorem dX7_unlike_75 : decode cX7_unlike 75 = .ok (.getfield 34, 3) := by decide +kernel
theorem dX7_unlike_78 : decode cX7_unlike 78 = .ok (.invokevirtual 211, 3) := by decide +kernel
theorem dX7_unlike_81 : decode cX7_unlike 81 = .ok (.ifCond .ne 5, 3) := by decide +kernel
theorem dX7_unlike_84 : decode cX7_unlike 84 = .ok (.iload_n 3, 1) := by decide +kernel
theorem dX7_unlike_85 : decode cX7_unlike 85 = .ok (.ireturn, 1) := by decide +kernel
theorem dX7_unlike_86 : decode cX7_unlike 86 = .ok (.aload_n 0, 1) := by decide +kernel
theorem dX7_unlike_87 : decode cX7_unlike 87 = .ok (.getfield 30, 3) := by decide +kernel
theorem dX7_unlike_90 : decode cX7_unlike 90 = .ok (.invokevirtual 202, 3) := by decide +kernel
theorem dX7_unlike_93 : decode cX7_unlike 93 = .ok (.aload_n 0, 1) := by decide +kernel
theorem dX7_unlike_94 : decode cX7_unlike 94 = .ok (.getfield 34, 3) := by decide +kernel
theorem dX7_unlike_97 : decode cX7_unlike 97 = .ok (.invokevirtual 202, 3) := by decide +kernel
theorem dX7_unlike_100 : decode cX7_unlike 100 = .ok (.iinc 3 1, 3) := by decide +kernel
theorem dX7_unlike_103 : decode cX7_unlike 103 = .ok (.goto (-40), 3) := by decide +kernel
theorem dX7_unlike_106 : decode cX7_unlike 106 = .ok (.bipush (-4), 2) := by decide +kernel
theorem dX7_unlike_108 : decode cX7_unlike 108 = .ok (.ireturn, 1) := by decide +kernel
theorem dX7_best_0 : decode cX7_best 0 = .ok (.aload_n 0, 1) := by decide +kernel
theorem dX7_best_1 : decode cX7_best 1 = .ok (.getfield 10, 3) := by decide +kernel
theorem dX7_best_4 : decode cX7_best 4 = .ok (.iload_n 1, 1) := by decide +kernel
theorem dX7_best_5 : decode cX7_best 5 = .ok (.invokevirtual 142, 3) := by decide +kernel
theorem dX7_best_8 : decode cX7_best 8 = .ok (.ifCond .ne 5, 3) := by decide +kernel
theorem dX7_best_11 : decode cX7_best 11 = .ok (.iconst (-1), 1) := by decide +kernel
theorem dX7_best_12 : decode cX7_best 12 = .ok (.ireturn, 1) := by decide +kernel
theorem dX7_best_13 : decode cX7_best 13 = .ok (.iconst 0, 1) := by decide +kernel
theorem dX7_best_14 : decode cX7_best 14 = .ok (.istore_n 2, 1) := by decide +kernel
theorem dX7_best_15 : decode cX7_best 15 = .ok (.iconst (-1), 1) := by decide +kernel
theorem dX7_best_16 : decode cX7_best 16 = .ok (.istore_n 3, 1) := by decide +kernel
theorem dX7_best_17 : decode cX7_best 17 = .ok (.aload_n 0, 1) := by decide +kernel
theorem dX7_best_18 : decode cX7_best 18 = .ok (.getfield 30, 3) := by decide +kernel
theorem dX7_best_21 : decode cX7_best 21 = .ok (.aload_n 0, 1) := by decide +kernel
theorem dX7_best_22 : decode cX7_best 22 = .ok (.getfield 10, 3) := by decide +kernel
theorem dX7_best_25 : decode cX7_best 25 = .ok (.invokevirtual 118, 3) := by decide +kernel
theorem dX7_best_28 : decode cX7_best 28 = .ok (.iconst 0, 1) := by decide +kernel
theorem dX7_best_29 : decode cX7_best 29 = .ok (.istore 4, 2) := by decide +kernel
theorem dX7_best_31 : decode cX7_best 31 = .ok (.iload 4, 2) := by decide +kernel
theorem dX7_best_33 : decode cX7_best 33 = .ok (.iconst 4, 1) := by decide +kernel
theorem dX7_best_34 : decode cX7_best 34 = .ok (.if_icmp .ge 49, 3) := by decide +kernel
theorem dX7_best_37 : decode cX7_best 37 = .ok (.aload_n 0, 1) := by decide +kernel
theorem dX7_best_38 : decode cX7_best 38 = .ok (.getfield 30, 3) := by decide +kernel
theorem dX7_best_41 : decode cX7_best 41 = .ok (.iload 4, 2) := by decide +kernel
theorem dX7_best_43 : decode cX7_best 43 = .ok (.aload_n 0, 1) := by decide +kernel
theorem dX7_best_44 : decode cX7_best 44 = .ok (.getfield 10, 3) := by decide +kernel
theorem dX7_best_47 : decode cX7_best 47 = .ok (.getfield 112, 3) := by decide +kernel
theorem dX7_best_50 : decode cX7_best 50 = .ok (.invokevirtual 194, 3) := by decide +kernel
theorem dX7_best_53 : decode cX7_best 53 = .ok (.aload_n 0, 1) := by decide +kernel
theorem dX7_best_54 : decode cX7_best 54 = .ok (.getfield 30, 3) := by decide +kernel
theorem dX7_best_57 : decode cX7_best 57 = .ok (.iload_n 1, 1) := by decide +kernel
theorem dX7_best_58 : decode cX7_best 58 = .ok (.invokevirtual 152, 3) := by decide +kernel
theorem dX7_best_61 : decode cX7_best 61 = .ok (.iload_n 3, 1) := by decide +kernel
theorem dX7_best_62 : decode cX7_best 62 = .ok (.if_icmp .le 15, 3) := by decide +kernel
theorem dX7_best_65 : decode cX7_best 65 = .ok (.aload_n 0, 1) := by decide +kernel
theorem dX7_best_66 : decode cX7_best 66 = .ok (.getfield 30, 3) := by decide +kernel
theorem dX7_best_69 : decode cX7_best 69 = .ok (.iload_n 1, 1) := by decide +kernel
theorem dX7_best_70 : decode cX7_best 70 = .ok (.invokevirtual 152, 3) := by decide +kernel
theorem dX7_best_73 : decode cX7_best 73 = .ok (.istore_n 3, 1) := by decide +kernel
theorem dX7_best_74 : decode cX7_best 74 = .ok (.iload 4, 2) := by decide +kernel
theorem dX7_best_76 : decode cX7_best 76 = .ok (.istore_n 2, 1) := by decide +kernel
theorem dX7_best_77 : decode cX7_best 77 = .ok (.iinc 4 1, 3) := by decide +kernel
theorem dX7_best_80 : decode cX7_best 80 = .ok (.goto (-49), 3) := by decide +kernel
theorem dX7_best_83 : decode cX7_best 83 = .ok (.iload_n 2, 1) := by decide +kernel
theorem dX7_best_84 : decode cX7_best 84 = .ok (.ireturn, 1) := by decide +kernel
theorem dX7_gains_0 : decode cX7_gains 0 = .ok (.aload_n 0, 1) := by decide +kernel
theorem dX7_gains_1 : decode cX7_gains 1 = .ok (.getfield 10, 3) := by decide +kernel
theorem dX7_gains_4 : decode cX7_gains 4 = .ok (.iload_n 1, 1) := by decide +kernel
theorem dX7_gains_5 : decode cX7_gains 5 = .ok (.invokevirtual 142, 3) := by decide +kernel
theorem dX7_gains_8 : decode cX7_gains 8 = .ok (.ifCond .eq 12, 3) := by decide +kernel
theorem dX7_gains_11 : decode cX7_gains 11 = .ok (.iload_n 2, 1) := by decide +kernel
theorem dX7_gains_12 : decode cX7_gains 12 = .ok (.iconst 0, 1) := by decide +kernel
theorem dX7_gains_13 : decode cX7_gains 13 = .ok (.iconst 1, 1) := by decide +kernel
theorem dX7_gains_14 : decode cX7_gains 14 = .ok (.invokestatic 73, 3) := by decide +kernel
theorem dX7_gains_17 : decode cX7_gains 17 = .ok (.ifCond .ne 5, 3) := by decide +kernel
theorem dX7_gains_20 : decode cX7_gains 20 = .ok (.iconst (-1), 1) := by decide +kernel
theorem dX7_gains_21 : decode cX7_gains 21 = .ok (.ireturn, 1) := by decide +kernel
theorem dX7_gains_22 : decode cX7_gains 22 = .ok (.aload_n 0, 1) := by decide +kernel
theorem dX7_gains_23 : decode cX7_gains 23 = .ok (.invokevirtual 134, 3) := by decide +kernel
theorem dX7_gains_26 : decode cX7_gains 26 = .ok (.iload_n 1, 1) := by decide +kernel
theorem dX7_gains_27 : decode cX7_gains 27 = .ok (.invokevirtual 152, 3) := by decide +kernel
theorem dX7_gains_30 : decode cX7_gains 30 = .ok (.istore_n 3, 1) := by decide +kernel
theorem dX7_gains_31 : decode cX7_gains 31 = .ok (.iconst 0, 1) := by decide +kernel
theorem dX7_gains_32 : decode cX7_gains 32 = .ok (.istore 4, 2) := by decide +kernel
theorem dX7_gains_34 : decode cX7_gains 34 = .ok (.bipush (-4), 2) := by decide +kernel
theorem dX7_gains_36 : decode cX7_gains 36 = .ok (.istore 5, 2) := by decide +kernel
theorem dX7_gains_38 : decode cX7_gains 38 = .ok (.iconst 0, 1) := by decide +kernel
theorem dX7_gains_39 : decode cX7_gains 39 = .ok (.istore 6, 2) := by decide +kernel
theorem dX7_gains_41 : decode cX7_gains 41 = .ok (.iload 6, 2) := by decide +kernel
theorem dX7_gains_43 : decode cX7_gains 43 = .ok (.aload_n 0, 1) := by decide +kernel
theorem dX7_gains_44 : decode cX7_gains 44 = .ok (.getfield 10, 3) := by decide +kernel
theorem dX7_gains_47 : decode cX7_gains 47 = .ok (.getfield 109, 3) := by decide +kernel
theorem dX7_gains_50 : decode cX7_gains 50 = .ok (.if_icmp .ge 45, 3) := by decide +kernel
theorem dX7_gains_53 : decode cX7_gains 53 = .ok (.iload 6, 2) := by decide +kernel
theorem dX7_gains_55 : decode cX7_gains 55 = .ok (.iload_n 1, 1) := by decide +kernel
theorem dX7_gains_56 : decode cX7_gains 56 = .ok (.if_icmp .ne 7, 3) := by decide +kernel
theorem dX7_gains_59 : decode cX7_gains 59 = .ok (.iconst 0, 1) := by decide +kernel
theorem dX7_gains_60 : decode cX7_gains 60 = .ok (.goto 12, 3) := by decide +kernel
theorem dX7_gains_63 : decode cX7_gains 63 = .ok (.aload_n 0, 1) := by decide +kernel
theorem dX7_gains_64 : decode cX7_gains 64 = .ok (.iload_n 1, 1) := by decide +kernel
theorem dX7_gains_65 : decode cX7_gains 65 = .ok (.iload 6, 2) := by decide +kernel
theorem dX7_gains_67 : decode cX7_gains 67 = .ok (.invokevirtual 215, 3) := by decide +kernel
theorem dX7_gains_70 : decode cX7_gains 70 = .ok (.iload_n 3, 1) := by decide +kernel
theorem dX7_gains_71 : decode cX7_gains 71 = .ok (.isub, 1) := by decide +kernel
theorem dX7_gains_72 : decode cX7_gains 72 = .ok (.istore 7, 2) := by decide +kernel
theorem dX7_gains_74 : decode cX7_gains 74 = .ok (.iload 7, 2) := by decide +kernel
theorem dX7_gains_76 : decode cX7_gains 76 = .ok (.iload 4, 2) := by decide +kernel
theorem dX7_gains_78 : decode cX7_gains 78 = .ok (.if_icmp .le 11, 3) := by decide +kernel
theorem dX7_gains_81 : decode cX7_gains 81 = .ok (.iload 7, 2) := by decide +kernel
theorem dX7_gains_83 : decode cX7_gains 83 = .ok (.istore 4, 2) := by decide +kernel
theorem dX7_gains_85 : decode cX7_gains 85 = .ok (.iload 6, 2) := by decide +kernel
theorem dX7_gains_87 : decode cX7_gains 87 = .ok (.istore 5, 2) := by decide +kernel
theorem dX7_gains_89 : decode cX7_gains 89 = .ok (.iinc 6 1, 3) := by decide +kernel
theorem dX7_gains_92 : decode cX7_gains 92 = .ok (.goto (-51), 3) := by decide +kernel
theorem dX7_gains_95 : decode cX7_gains 95 = .ok (.iload_n 2, 1) := by decide +kernel
theorem dX7_gains_96 : decode cX7_gains 96 = .ok (.ifCond .eq 10, 3) := by decide +kernel
theorem dX7_gains_99 : decode cX7_gains 99 = .ok (.iload 5, 2) := by decide +kernel
theorem dX7_gains_101 : decode cX7_gains 101 = .ok (.bipush (-4), 2) := by decide +kernel
theorem dX7_gains_103 : decode cX7_gains 103 = .ok (.if_icmp .ne 8, 3) := by decide +kernel
theorem dX7_gains_106 : decode cX7_gains 106 = .ok (.iload 5, 2) := by decide +kernel
theorem dX7_gains_108 : decode cX7_gains 108 = .ok (.goto 5, 3) := by decide +kernel
theorem dX7_gains_111 : decode cX7_gains 111 = .ok (.iload 4, 2) := by decide +kernel
theorem dX7_gains_113 : decode cX7_gains 113 = .ok (.ireturn, 1) := by decide +kernel
theorem dX7_wants_0 : decode cX7_wants 0 = .ok (.aload_n 0, 1) := by decide +kernel
theorem dX7_wants_1 : decode cX7_wants 1 = .ok (.getfield 10, 3) := by decide +kernel
theorem dX7_wants_4 : decode cX7_wants 4 = .ok (.iload_n 1, 1) := by decide +kernel
theorem dX7_wants_5 : decode cX7_wants 5 = .ok (.invokevirtual 142, 3) := by decide +kernel
theorem dX7_wants_8 : decode cX7_wants 8 = .ok (.ifCond .eq 10, 3) := by decide +kernel
theorem dX7_wants_11 : decode cX7_wants 11 = .ok (.iload_n 2, 1) := by decide +kernel
theorem dX7_wants_12 : decode cX7_wants 12 = .ok (.invokestatic 164, 3) := by decide +kernel
theorem dX7_wants_15 : decode cX7_wants 15 = .ok (.ifCond .ne 5, 3) := by decide +kernel
theorem dX7_wants_18 : decode cX7_wants 18 = .ok (.iconst (-1), 1) := by decide +kernel
theorem dX7_wants_19 : decode cX7_wants 19 = .ok (.ireturn, 1) := by decide +kernel
theorem dX7_wants_20 : decode cX7_wants 20 = .ok (.aload_n 0, 1) := by decide +kernel
theorem dX7_wants_21 : decode cX7_wants 21 = .ok (.iconst 0, 1) := by decide +kernel
theorem dX7_wants_22 : decode cX7_wants 22 = .ok (.invokevirtual 198, 3) := by decide +kernel
theorem dX7_wants_25 : decode cX7_wants 25 = .ok (.pop, 1) := by decide +kernel
theorem dX7_wants_26 : decode cX7_wants 26 = .ok (.iconst 0, 1) := by decide +kernel
theorem dX7_wants_27 : decode cX7_wants 27 = .ok (.istore_n 3, 1) := by decide +kernel
theorem dX7_wants_28 : decode cX7_wants 28 = .ok (.iload_n 3, 1) := by decide +kernel
theorem dX7_wants_29 : decode cX7_wants 29 = .ok (.sipush 999, 3) := by decide +kernel
theorem dX7_wants_32 : decode cX7_wants 32 = .ok (.if_icmp .gt 30, 3) := by decide +kernel
theorem dX7_wants_35 : decode cX7_wants 35 = .ok (.aload_n 0, 1) := by decide +kernel
theorem dX7_wants_36 : decode cX7_wants 36 = .ok (.getfield 30, 3) := by decide +kernel
theorem dX7_wants_39 : decode cX7_wants 39 = .ok (.iload_n 1, 1) := by decide +kernel
theorem dX7_wants_40 : decode cX7_wants 40 = .ok (.invokevirtual 152, 3) := by decide +kernel
theorem dX7_wants_43 : decode cX7_wants 43 = .ok (.iload_n 2, 1) := by decide +kernel
theorem dX7_wants_44 : decode cX7_wants 44 = .ok (.if_icmp .lt 5, 3) := by decide +kernel
theorem dX7_wants_47 : decode cX7_wants 47 = .ok (.iload_n 3, 1) := by decide +kernel
theorem dX7_wants_48 : decode cX7_wants 48 = .ok (.ireturn, 1) := by decide +kernel
theorem dX7_wants_49 : decode cX7_wants 49 = .ok (.aload_n 0, 1) := by decide +kernel
theorem dX7_wants_50 : decode cX7_wants 50 = .ok (.getfield 30, 3) := by decide +kernel
theorem dX7_wants_53 : decode cX7_wants 53 = .ok (.invokevirtual 202, 3) := by decide +kernel
theorem dX7_wants_56 : decode cX7_wants 56 = .ok (.iinc 3 1, 3) := by decide +kernel
theorem dX7_wants_59 : decode cX7_wants 59 = .ok (.goto (-31), 3) := by decide +kernel
theorem dX7_wants_62 : decode cX7_wants 62 = .ok (.bipush (-4), 2) := by decide +kernel
theorem dX7_wants_64 : decode cX7_wants 64 = .ok (.ireturn, 1) := by decide +kernel
theorem dX7_mean_0 : decode cX7_mean 0 = .ok (.iload_n 1, 1) := by decide +kernel
theorem dX7_mean_1 : decode cX7_mean 1 = .ok (.iconst 0, 1) := by decide +kernel
theorem dX7_mean_2 : decode cX7_mean 2 = .ok (.bipush 10, 2) := by decide +kernel
theorem dX7_mean_4 : decode cX7_mean 4 = .ok (.invokestatic 73, 3) := by decide +kernel
theorem dX7_mean_7 : decode cX7_mean 7 = .ok (.ifCond .eq 23, 3) := by decide +kernel
theorem dX7_mean_10 : decode cX7_mean 10 = .ok (.aload_n 0, 1) := by decide +kernel
theorem dX7_mean_11 : decode cX7_mean 11 = .ok (.getfield 10, 3) := by decide +kernel
theorem dX7_mean_14 : decode cX7_mean 14 = .ok (.iload_n 2, 1) := by decide +kernel
theorem dX7_mean_15 : decode cX7_mean 15 = .ok (.invokevirtual 142, 3) := by decide +kernel
theorem dX7_mean_18 : decode cX7_mean 18 = .ok (.ifCond .eq 12, 3) := by decide +kernel
theorem dX7_mean_21 : decode cX7_mean 21 = .ok (.iload_n 3, 1) := by decide +kernel
theorem dX7_mean_22 : decode cX7_mean 22 = .ok (.iconst 0, 1) := by decide +kernel
theorem dX7_mean_23 : decode cX7_mean 23 = .ok (.iconst 1, 1) := by decide +kernel
theorem dX7_mean_24 : decode cX7_mean 24 = .ok (.invokestatic 73, 3) := by decide +kernel
theorem dX7_mean_27 : decode cX7_mean 27 = .ok (.ifCond .ne 7, 3) := by decide +kernel
theorem dX7_mean_30 : decode cX7_mean 30 = .ok (.ldc2_w 158, 3) := by decide +kernel
theorem dX7_mean_33 : decode cX7_mean 33 = .ok (.lreturn, 1) := by decide +kernel
theorem dX7_mean_34 : decode cX7_mean 34 = .ok (.aload_n 0, 1) := by decide +kernel
theorem dX7_mean_35 : decode cX7_mean 35 = .ok (.getfield 10, 3) := by decide +kernel
theorem dX7_mean_38 : decode cX7_mean 38 = .ok (.getfield 112, 3) := by decide +kernel
theorem dX7_mean_41 : decode cX7_mean 41 = .ok (.bipush 12, 2) := by decide +kernel
theorem dX7_mean_43 : decode cX7_mean 43 = .ok (.if_icmp .le 7, 3) := by decide +kernel
theorem dX7_mean_46 : decode cX7_mean 46 = .ok (.ldc2_w 218, 3) := by decide +kernel
theorem dX7_mean_49 : decode cX7_mean 49 = .ok (.lreturn, 1) := by decide +kernel
theorem dX7_mean_50 : decode cX7_mean 50 = .ok (.lconst 0, 1) := by decide +kernel
theorem dX7_mean_51 : decode cX7_mean 51 = .ok (.lstore 4, 2) := by decide +kernel
theorem dX7_mean_53 : decode cX7_mean 53 = .ok (.aload_n 0, 1) := by decide +kernel
theorem dX7_mean_54 : decode cX7_mean 54 = .ok (.iconst 0, 1) := by decide +kernel
theorem dX7_mean_55 : decode cX7_mean 55 = .ok (.invokevirtual 198, 3) := by decide +kernel
theorem dX7_mean_58 : decode cX7_mean 58 = .ok (.pop, 1) := by decide +kernel
theorem dX7_mean_59 : decode cX7_mean 59 = .ok (.iconst 0, 1) := by decide +kernel
theorem dX7_mean_60 : decode cX7_mean 60 = .ok (.istore 6, 2) := by decide +kernel
theorem dX7_mean_62 : decode cX7_mean 62 = .ok (.iload 6, 2) := by decide +kernel
theorem dX7_mean_64 : decode cX7_mean 64 = .ok (.aload_n 0, 1) := by decide +kernel
theorem dX7_mean_65 : decode cX7_mean 65 = .ok (.getfield 10, 3) := by decide +kernel
theorem dX7_mean_68 : decode cX7_mean 68 = .ok (.getfield 112, 3) := by decide +kernel
theorem dX7_mean_71 : decode cX7_mean 71 = .ok (.if_icmp .gt 44, 3) := by decide +kernel
theorem dX7_mean_74 : decode cX7_mean 74 = .ok (.lload 4, 2) := by decide +kernel
theorem dX7_mean_76 : decode cX7_mean 76 = .ok (.aload_n 0, 1) := by decide +kernel
theorem dX7_mean_77 : decode cX7_mean 77 = .ok (.getfield 10, 3) := by decide +kernel
theorem dX7_mean_80 : decode cX7_mean 80 = .ok (.getfield 112, 3) := by decide +kernel
theorem dX7_mean_83 : decode cX7_mean 83 = .ok (.iload 6, 2) := by decide +kernel
theorem dX7_mean_85 : decode cX7_mean 85 = .ok (.iload_n 1, 1) := by decide +kernel
theorem dX7_mean_86 : decode cX7_mean 86 = .ok (.invokestatic 220, 3) := by decide +kernel
theorem dX7_mean_89 : decode cX7_mean 89 = .ok (.aload_n 0, 1) := by decide +kernel
theorem dX7_mean_90 : decode cX7_mean 90 = .ok (.getfield 30, 3) := by decide +kernel
theorem dX7_mean_93 : decode cX7_mean 93 = .ok (.iload_n 2, 1) := by decide +kernel
theorem dX7_mean_94 : decode cX7_mean 94 = .ok (.invokevirtual 152, 3) := by decide +kernel
theorem dX7_mean_97 : decode cX7_mean 97 = .ok (.i2l, 1) := by decide +kernel
theorem dX7_mean_98 : decode cX7_mean 98 = .ok (.lmul, 1) := by decide +kernel
theorem dX7_mean_99 : decode cX7_mean 99 = .ok (.ladd, 1) := by decide +kernel
theorem dX7_mean_100 : decode cX7_mean 100 = .ok (.lstore 4, 2) := by decide +kernel
theorem dX7_mean_102 : decode cX7_mean 102 = .ok (.aload_n 0, 1) := by decide +kernel
theorem dX7_mean_103 : decode cX7_mean 103 = .ok (.getfield 30, 3) := by decide +kernel
theorem dX7_mean_106 : decode cX7_mean 106 = .ok (.invokevirtual 202, 3) := by decide +kernel
theorem dX7_mean_109 : decode cX7_mean 109 = .ok (.iinc 6 1, 3) := by decide +kernel
theorem dX7_mean_112 : decode cX7_mean 112 = .ok (.goto (-50), 3) := by decide +kernel
theorem dX7_mean_115 : decode cX7_mean 115 = .ok (.lload 4, 2) := by decide +kernel
theorem dX7_mean_117 : decode cX7_mean 117 = .ok (.bipush 10, 2) := by decide +kernel
theorem dX7_mean_119 : decode cX7_mean 119 = .ok (.aload_n 0, 1) := by decide +kernel
theorem dX7_mean_120 : decode cX7_mean 120 = .ok (.getfield 10, 3) := by decide +kernel
theorem dX7_mean_123 : decode cX7_mean 123 = .ok (.getfield 112, 3) := by decide +kernel
theorem dX7_mean_126 : decode cX7_mean 126 = .ok (.invokestatic 224, 3) := by decide +kernel
theorem dX7_mean_129 : decode cX7_mean 129 = .ok (.iload_n 3, 1) := by decide +kernel
theorem dX7_mean_130 : decode cX7_mean 130 = .ok (.invokestatic 160, 3) := by decide +kernel
theorem dX7_mean_133 : decode cX7_mean 133 = .ok (.lreturn, 1) := by decide +kernel
theorem dX7_luck_0 : decode cX7_luck 0 = .ok (.iload_n 1, 1) := by decide +kernel
theorem dX7_luck_1 : decode cX7_luck 1 = .ok (.iconst 0, 1) := by decide +kernel
theorem dX7_luck_2 : decode cX7_luck 2 = .ok (.bipush 10, 2) := by decide +kernel
theorem dX7_luck_4 : decode cX7_luck 4 = .ok (.invokestatic 73, 3) := by decide +kernel
theorem dX7_luck_7 : decode cX7_luck 7 = .ok (.ifCond .eq 31, 3) := by decide +kernel
theorem dX7_luck_10 : decode cX7_luck 10 = .ok (.aload_n 0, 1) := by decide +kernel
theorem dX7_luck_11 : decode cX7_luck 11 = .ok (.getfield 10, 3) := by decide +kernel
theorem dX7_luck_14 : decode cX7_luck 14 = .ok (.iload_n 2, 1) := by decide +kernel
theorem dX7_luck_15 : decode cX7_luck 15 = .ok (.invokevirtual 142, 3) := by decide +kernel
theorem dX7_luck_18 : decode cX7_luck 18 = .ok (.ifCond .eq 20, 3) := by decide +kernel
theorem dX7_luck_21 : decode cX7_luck 21 = .ok (.iload_n 3, 1) := by decide +kernel
theorem dX7_luck_22 : decode cX7_luck 22 = .ok (.invokestatic 164, 3) := by decide +kernel
theorem dX7_luck_25 : decode cX7_luck 25 = .ok (.ifCond .eq 13, 3) := by decide +kernel
theorem dX7_luck_28 : decode cX7_luck 28 = .ok (.iload 4, 2) := by decide +kernel
theorem dX7_luck_30 : decode cX7_luck 30 = .ok (.iconst 0, 1) := by decide +kernel
theorem dX7_luck_31 : decode cX7_luck 31 = .ok (.iconst 1, 1) := by decide +kernel
theorem dX7_luck_32 : decode cX7_luck 32 = .ok (.invokestatic 73, 3) := by decide +kernel
theorem dX7_luck_35 : decode cX7_luck 35 = .ok (.ifCond .ne 7, 3) := by decide +kernel
theorem dX7_luck_38 : decode cX7_luck 38 = .ok (.ldc2_w 158, 3) := by decide +kernel
theorem dX7_luck_41 : decode cX7_luck 41 = .ok (.lreturn, 1) := by decide +kernel
theorem dX7_luck_42 : decode cX7_luck 42 = .ok (.aload_n 0, 1) := by decide +kernel
theorem dX7_luck_43 : decode cX7_luck 43 = .ok (.getfield 10, 3) := by decide +kernel
theorem dX7_luck_46 : decode cX7_luck 46 = .ok (.getfield 112, 3) := by decide +kernel
theorem dX7_luck_49 : decode cX7_luck 49 = .ok (.bipush 12, 2) := by decide +kernel
theorem dX7_luck_51 : decode cX7_luck 51 = .ok (.if_icmp .le 7, 3) := by decide +kernel
theorem dX7_luck_54 : decode cX7_luck 54 = .ok (.ldc2_w 218, 3) := by decide +kernel
theorem dX7_luck_57 : decode cX7_luck 57 = .ok (.lreturn, 1) := by decide +kernel
theorem dX7_luck_58 : decode cX7_luck 58 = .ok (.lconst 0, 1) := by decide +kernel
theorem dX7_luck_59 : decode cX7_luck 59 = .ok (.lstore 5, 2) := by decide +kernel
theorem dX7_luck_61 : decode cX7_luck 61 = .ok (.aload_n 0, 1) := by decide +kernel
theorem dX7_luck_62 : decode cX7_luck 62 = .ok (.iconst 0, 1) := by decide +kernel
theorem dX7_luck_63 : decode cX7_luck 63 = .ok (.invokevirtual 198, 3) := by decide +kernel
theorem dX7_luck_66 : decode cX7_luck 66 = .ok (.pop, 1) := by decide +kernel
theorem dX7_luck_67 : decode cX7_luck 67 = .ok (.iconst 0, 1) := by decide +kernel
theorem dX7_luck_68 : decode cX7_luck 68 = .ok (.istore 7, 2) := by decide +kernel
theorem dX7_luck_70 : decode cX7_luck 70 = .ok (.iload 7, 2) := by decide +kernel
theorem dX7_luck_72 : decode cX7_luck 72 = .ok (.aload_n 0, 1) := by decide +kernel
theorem dX7_luck_73 : decode cX7_luck 73 = .ok (.getfield 10, 3) := by decide +kernel
theorem dX7_luck_76 : decode cX7_luck 76 = .ok (.getfield 112, 3) := by decide +kernel
theorem dX7_luck_79 : decode cX7_luck 79 = .ok (.if_icmp .gt 46, 3) := by decide +kernel
theorem dX7_luck_82 : decode cX7_luck 82 = .ok (.aload_n 0, 1) := by decide +kernel
theorem dX7_luck_83 : decode cX7_luck 83 = .ok (.getfield 30, 3) := by decide +kernel
theorem dX7_luck_86 : decode cX7_luck 86 = .ok (.iload_n 2, 1) := by decide +kernel
theorem dX7_luck_87 : decode cX7_luck 87 = .ok (.invokevirtual 152, 3) := by decide +kernel
theorem dX7_luck_90 : decode cX7_luck 90 = .ok (.iload_n 3, 1) := by decide +kernel
theorem dX7_luck_91 : decode cX7_luck 91 = .ok (.if_icmp .lt 21, 3) := by decide +kernel
theorem dX7_luck_94 : decode cX7_luck 94 = .ok (.lload 5, 2) := by decide +kernel
theorem dX7_luck_96 : decode cX7_luck 96 = .ok (.aload_n 0, 1) := by decide +kernel
theorem dX7_luck_97 : decode cX7_luck 97 = .ok (.getfield 10, 3) := by decide +kernel
theorem dX7_luck_100 : decode cX7_luck 100 = .ok (.getfield 112, 3) := by decide +kernel
theorem dX7_luck_103 : decode cX7_luck 103 = .ok (.iload 7, 2) := by decide +kernel
theorem dX7_luck_105 : decode cX7_luck 105 = .ok (.iload_n 1, 1) := by decide +kernel
theorem dX7_luck_106 : decode cX7_luck 106 = .ok (.invokestatic 220, 3) := by decide +kernel
theorem dX7_luck_109 : decode cX7_luck 109 = .ok (.ladd, 1) := by decide +kernel
theorem dX7_luck_110 : decode cX7_luck 110 = .ok (.lstore 5, 2) := by decide +kernel
theorem dX7_luck_112 : decode cX7_luck 112 = .ok (.aload_n 0, 1) := by decide +kernel
theorem dX7_luck_113 : decode cX7_luck 113 = .ok (.getfield 30, 3) := by decide +kernel
theorem dX7_luck_116 : decode cX7_luck 116 = .ok (.invokevirtual 202, 3) := by decide +kernel
theorem dX7_luck_119 : decode cX7_luck 119 = .ok (.iinc 7 1, 3) := by decide +kernel
theorem dX7_luck_122 : decode cX7_luck 122 = .ok (.goto (-52), 3) := by decide +kernel
theorem dX7_luck_125 : decode cX7_luck 125 = .ok (.lload 5, 2) := by decide +kernel
theorem dX7_luck_127 : decode cX7_luck 127 = .ok (.bipush 10, 2) := by decide +kernel
theorem dX7_luck_129 : decode cX7_luck 129 = .ok (.aload_n 0, 1) := by decide +kernel
theorem dX7_luck_130 : decode cX7_luck 130 = .ok (.getfield 10, 3) := by decide +kernel
theorem dX7_luck_133 : decode cX7_luck 133 = .ok (.getfield 112, 3) := by decide +kernel
theorem dX7_luck_136 : decode cX7_luck 136 = .ok (.invokestatic 224, 3) := by decide +kernel
theorem dX7_luck_139 : decode cX7_luck 139 = .ok (.iload 4, 2) := by decide +kernel
theorem dX7_luck_141 : decode cX7_luck 141 = .ok (.invokestatic 160, 3) := by decide +kernel
theorem dX7_luck_144 : decode cX7_luck 144 = .ok (.lreturn, 1) := by decide +kernel
theorem dX7_see_0 : decode cX7_see 0 = .ok (.aload_n 0, 1) := by decide +kernel
theorem dX7_see_1 : decode cX7_see 1 = .ok (.getfield 10, 3) := by decide +kernel
theorem dX7_see_4 : decode cX7_see 4 = .ok (.iload_n 1, 1) := by decide +kernel
theorem dX7_see_5 : decode cX7_see 5 = .ok (.invokevirtual 142, 3) := by decide +kernel
theorem dX7_see_8 : decode cX7_see 8 = .ok (.ifCond .eq 10, 3) := by decide +kernel
theorem dX7_see_11 : decode cX7_see 11 = .ok (.iload_n 2, 1) := by decide +kernel
theorem dX7_see_12 : decode cX7_see 12 = .ok (.invokestatic 164, 3) := by decide +kernel
theorem dX7_see_15 : decode cX7_see 15 = .ok (.ifCond .ne 5, 3) := by decide +kernel
theorem dX7_see_18 : decode cX7_see 18 = .ok (.iconst (-1), 1) := by decide +kernel
theorem dX7_see_19 : decode cX7_see 19 = .ok (.ireturn, 1) := by decide +kernel
theorem dX7_see_20 : decode cX7_see 20 = .ok (.aload_n 0, 1) := by decide +kernel
theorem dX7_see_21 : decode cX7_see 21 = .ok (.getfield 10, 3) := by decide +kernel
theorem dX7_see_24 : decode cX7_see 24 = .ok (.iload_n 1, 1) := by decide +kernel
theorem dX7_see_25 : decode cX7_see 25 = .ok (.iload_n 2, 1) := by decide +kernel
theorem dX7_see_26 : decode cX7_see 26 = .ok (.invokevirtual 228, 3) := by decide +kernel
theorem dX7_see_29 : decode cX7_see 29 = .ok (.ireturn, 1) := by decide +kernel
theorem dX7_forget_0 : decode cX7_forget 0 = .ok (.aload_n 0, 1) := by decide +kernel
theorem dX7_forget_1 : decode cX7_forget 1 = .ok (.getfield 10, 3) := by decide +kernel
theorem dX7_forget_4 : decode cX7_forget 4 = .ok (.getfield 231, 3) := by decide +kernel
theorem dX7_forget_7 : decode cX7_forget 7 = .ok (.istore_n 2, 1) := by decide +kernel
theorem dX7_forget_8 : decode cX7_forget 8 = .ok (.iload_n 1, 1) := by decide +kernel
theorem dX7_forget_9 : decode cX7_forget 9 = .ok (.iconst 0, 1) := by decide +kernel
theorem dX7_forget_10 : decode cX7_forget 10 = .ok (.iload_n 2, 1) := by decide +kernel
theorem dX7_forget_11 : decode cX7_forget 11 = .ok (.invokestatic 73, 3) := by decide +kernel
theorem dX7_forget_14 : decode cX7_forget 14 = .ok (.ifCond .ne 5, 3) := by decide +kernel
theorem dX7_forget_17 : decode cX7_forget 17 = .ok (.iconst (-1), 1) := by decide +kernel
theorem dX7_forget_18 : decode cX7_forget 18 = .ok (.ireturn, 1) := by decide +kernel
theorem dX7_forget_19 : decode cX7_forget 19 = .ok (.aload_n 0, 1) := by decide +kernel
theorem dX7_forget_20 : decode cX7_forget 20 = .ok (.getfield 10, 3) := by decide +kernel
theorem dX7_forget_23 : decode cX7_forget 23 = .ok (.iload_n 1, 1) := by decide +kernel
theorem dX7_forget_24 : decode cX7_forget 24 = .ok (.putfield 231, 3) := by decide +kernel
theorem dX7_forget_27 : decode cX7_forget 27 = .ok (.iload_n 2, 1) := by decide +kernel
theorem dX7_forget_28 : decode cX7_forget 28 = .ok (.ireturn, 1) := by decide +kernel
theorem dX7_judges_0 : decode cX7_judges 0 = .ok (.iconst 0, 1) := by decide +kernel
theorem dX7_judges_1 : decode cX7_judges 1 = .ok (.istore_n 1, 1) := by decide +kernel
theorem dX7_judges_2 : decode cX7_judges 2 = .ok (.aload_n 0, 1) := by decide +kernel
theorem dX7_judges_3 : decode cX7_judges 3 = .ok (.getfield 30, 3) := by decide +kernel
theorem dX7_judges_6 : decode cX7_judges 6 = .ok (.aload_n 0, 1) := by decide +kernel
theorem dX7_judges_7 : decode cX7_judges 7 = .ok (.getfield 10, 3) := by decide +kernel
theorem dX7_judges_10 : decode cX7_judges 10 = .ok (.invokevirtual 118, 3) := by decide +kernel
theorem dX7_judges_13 : decode cX7_judges 13 = .ok (.iconst 0, 1) := by decide +kernel
theorem dX7_judges_14 : decode cX7_judges 14 = .ok (.istore_n 2, 1) := by decide +kernel
theorem dX7_judges_15 : decode cX7_judges 15 = .ok (.iload_n 2, 1) := by decide +kernel
theorem dX7_judges_16 : decode cX7_judges 16 = .ok (.iconst 4, 1) := by decide +kernel
theorem dX7_judges_17 : decode cX7_judges 17 = .ok (.if_icmp .ge 44, 3) := by decide +kernel
theorem dX7_judges_20 : decode cX7_judges 20 = .ok (.aload_n 0, 1) := by decide +kernel
theorem dX7_judges_21 : decode cX7_judges 21 = .ok (.getfield 30, 3) := by decide +kernel
theorem dX7_judges_24 : decode cX7_judges 24 = .ok (.iload_n 2, 1) := by decide +kernel
theorem dX7_judges_25 : decode cX7_judges 25 = .ok (.aload_n 0, 1) := by decide +kernel
theorem dX7_judges_26 : decode cX7_judges 26 = .ok (.getfield 10, 3) := by decide +kernel
theorem dX7_judges_29 : decode cX7_judges 29 = .ok (.getfield 112, 3) := by decide +kernel
theorem dX7_judges_32 : decode cX7_judges 32 = .ok (.invokevirtual 194, 3) := by decide +kernel
theorem dX7_judges_35 : decode cX7_judges 35 = .ok (.aload_n 0, 1) := by decide +kernel
theorem dX7_judges_36 : decode cX7_judges 36 = .ok (.getfield 30, 3) := by decide +kernel
theorem dX7_judges_39 : decode cX7_judges 39 = .ok (.aload_n 0, 1) := by decide +kernel
theorem dX7_judges_40 : decode cX7_judges 40 = .ok (.getfield 10, 3) := by decide +kernel
theorem dX7_judges_43 : decode cX7_judges 43 = .ok (.invokevirtual 234, 3) := by decide +kernel
theorem dX7_judges_46 : decode cX7_judges 46 = .ok (.ifCond .eq 9, 3) := by decide +kernel
theorem dX7_judges_49 : decode cX7_judges 49 = .ok (.iload_n 1, 1) := by decide +kernel
theorem dX7_judges_50 : decode cX7_judges 50 = .ok (.iconst 1, 1) := by decide +kernel
theorem dX7_judges_51 : decode cX7_judges 51 = .ok (.iload_n 2, 1) := by decide +kernel
theorem dX7_judges_52 : decode cX7_judges 52 = .ok (.ishl, 1) := by decide +kernel
theorem dX7_judges_53 : decode cX7_judges 53 = .ok (.ior, 1) := by decide +kernel
theorem dX7_judges_54 : decode cX7_judges 54 = .ok (.istore_n 1, 1) := by decide +kernel
theorem dX7_judges_55 : decode cX7_judges 55 = .ok (.iinc 2 1, 3) := by decide +kernel
theorem dX7_judges_58 : decode cX7_judges 58 = .ok (.goto (-43), 3) := by decide +kernel
theorem dX7_judges_61 : decode cX7_judges 61 = .ok (.iload_n 1, 1) := by decide +kernel
theorem dX7_judges_62 : decode cX7_judges 62 = .ok (.ireturn, 1) := by decide +kernel
theorem dX7_herds_0 : decode cX7_herds 0 = .ok (.iload_n 1, 1) := by decide +kernel
theorem dX7_herds_1 : decode cX7_herds 1 = .ok (.iconst 0, 1) := by decide +kernel
theorem dX7_herds_2 : decode cX7_herds 2 = .ok (.iconst 2, 1) := by decide +kernel
theorem dX7_herds_3 : decode cX7_herds 3 = .ok (.invokestatic 73, 3) := by decide +kernel
theorem dX7_herds_6 : decode cX7_herds 6 = .ok (.ifCond .ne 5, 3) := by decide +kernel
theorem dX7_herds_9 : decode cX7_herds 9 = .ok (.iconst (-1), 1) := by decide +kernel
theorem dX7_herds_10 : decode cX7_herds 10 = .ok (.ireturn, 1) := by decide +kernel
theorem dX7_herds_11 : decode cX7_herds 11 = .ok (.aload_n 0, 1) := by decide +kernel
theorem dX7_herds_12 : decode cX7_herds 12 = .ok (.invokevirtual 238, 3) := by decide +kernel
theorem dX7_herds_15 : decode cX7_herds 15 = .ok (.aload_n 0, 1) := by decide +kernel
theorem dX7_herds_16 : decode cX7_herds 16 = .ok (.getfield 54, 3) := by decide +kernel
theorem dX7_herds_19 : decode cX7_herds 19 = .ok (.iload_n 1, 1) := by decide +kernel
theorem dX7_herds_20 : decode cX7_herds 20 = .ok (.invokevirtual 241, 3) := by decide +kernel
theorem dX7_herds_23 : decode cX7_herds 23 = .ok (.ireturn, 1) := by decide +kernel
theorem dX7_downs_0 : decode cX7_downs 0 = .ok (.aload_n 0, 1) := by decide +kernel
theorem dX7_downs_1 : decode cX7_downs 1 = .ok (.getfield 10, 3) := by decide +kernel
theorem dX7_downs_4 : decode cX7_downs 4 = .ok (.iload_n 1, 1) := by decide +kernel
theorem dX7_downs_5 : decode cX7_downs 5 = .ok (.invokevirtual 142, 3) := by decide +kernel
theorem dX7_downs_8 : decode cX7_downs 8 = .ok (.ifCond .eq 12, 3) := by decide +kernel
theorem dX7_downs_11 : decode cX7_downs 11 = .ok (.iload_n 2, 1) := by decide +kernel
theorem dX7_downs_12 : decode cX7_downs 12 = .ok (.iconst 0, 1) := by decide +kernel
theorem dX7_downs_13 : decode cX7_downs 13 = .ok (.iconst 2, 1) := by decide +kernel
theorem dX7_downs_14 : decode cX7_downs 14 = .ok (.invokestatic 73, 3) := by decide +kernel
theorem dX7_downs_17 : decode cX7_downs 17 = .ok (.ifCond .ne 5, 3) := by decide +kernel
theorem dX7_downs_20 : decode cX7_downs 20 = .ok (.iconst (-1), 1) := by decide +kernel
theorem dX7_downs_21 : decode cX7_downs 21 = .ok (.ireturn, 1) := by decide +kernel
theorem dX7_downs_22 : decode cX7_downs 22 = .ok (.aload_n 0, 1) := by decide +kernel
theorem dX7_downs_23 : decode cX7_downs 23 = .ok (.getfield 54, 3) := by decide +kernel
theorem dX7_downs_26 : decode cX7_downs 26 = .ok (.invokevirtual 244, 3) := by decide +kernel
theorem dX7_downs_29 : decode cX7_downs 29 = .ok (.aload_n 0, 1) := by decide +kernel
theorem dX7_downs_30 : decode cX7_downs 30 = .ok (.getfield 16, 3) := by decide +kernel
theorem dX7_downs_33 : decode cX7_downs 33 = .ok (.aload_n 0, 1) := by decide +kernel
theorem dX7_downs_34 : decode cX7_downs 34 = .ok (.getfield 10, 3) := by decide +kernel
theorem dX7_downs_37 : decode cX7_downs 37 = .ok (.invokevirtual 102, 3) := by decide +kernel
theorem dX7_downs_40 : decode cX7_downs 40 = .ok (.iconst 1, 1) := by decide +kernel
theorem dX7_downs_41 : decode cX7_downs 41 = .ok (.istore_n 3, 1) := by decide +kernel
theorem dX7_downs_42 : decode cX7_downs 42 = .ok (.iload_n 3, 1) := by decide +kernel
theorem dX7_downs_43 : decode cX7_downs 43 = .ok (.bipush 99, 2) := by decide +kernel
theorem dX7_downs_45 : decode cX7_downs 45 = .ok (.if_icmp .gt 73, 3) := by decide +kernel
theorem dX7_downs_48 : decode cX7_downs 48 = .ok (.aload_n 0, 1) := by decide +kernel
theorem dX7_downs_49 : decode cX7_downs 49 = .ok (.getfield 16, 3) := by decide +kernel
theorem dX7_downs_52 : decode cX7_downs 52 = .ok (.getfield 149, 3) := by decide +kernel
theorem dX7_downs_55 : decode cX7_downs 55 = .ok (.iload_n 1, 1) := by decide +kernel
theorem dX7_downs_56 : decode cX7_downs 56 = .ok (.iload_n 3, 1) := by decide +kernel
theorem dX7_downs_57 : decode cX7_downs 57 = .ok (.iastore, 1) := by decide +kernel
theorem dX7_downs_58 : decode cX7_downs 58 = .ok (.aload_n 0, 1) := by decide +kernel
theorem dX7_downs_59 : decode cX7_downs 59 = .ok (.getfield 30, 3) := by decide +kernel
theorem dX7_downs_62 : decode cX7_downs 62 = .ok (.aload_n 0, 1) := by decide +kernel
theorem dX7_downs_63 : decode cX7_downs 63 = .ok (.getfield 16, 3) := by decide +kernel
theorem dX7_downs_66 : decode cX7_downs 66 = .ok (.invokevirtual 118, 3) := by decide +kernel
theorem dX7_downs_69 : decode cX7_downs 69 = .ok (.aload_n 0, 1) := by decide +kernel
theorem dX7_downs_70 : decode cX7_downs 70 = .ok (.getfield 30, 3) := by decide +kernel
theorem dX7_downs_73 : decode cX7_downs 73 = .ok (.aload_n 0, 1) := by decide +kernel
theorem dX7_downs_74 : decode cX7_downs 74 = .ok (.getfield 10, 3) := by decide +kernel
theorem dX7_downs_77 : decode cX7_downs 77 = .ok (.getfield 115, 3) := by decide +kernel
theorem dX7_downs_80 : decode cX7_downs 80 = .ok (.aload_n 0, 1) := by decide +kernel
theorem dX7_downs_81 : decode cX7_downs 81 = .ok (.getfield 10, 3) := by decide +kernel
theorem dX7_downs_84 : decode cX7_downs 84 = .ok (.getfield 112, 3) := by decide +kernel
theorem dX7_downs_87 : decode cX7_downs 87 = .ok (.invokevirtual 194, 3) := by decide +kernel
theorem dX7_downs_90 : decode cX7_downs 90 = .ok (.aload_n 0, 1) := by decide +kernel
theorem dX7_downs_91 : decode cX7_downs 91 = .ok (.getfield 30, 3) := by decide +kernel
theorem dX7_downs_94 : decode cX7_downs 94 = .ok (.aload_n 0, 1) := by decide +kernel
theorem dX7_downs_95 : decode cX7_downs 95 = .ok (.getfield 10, 3) := by decide +kernel
theorem dX7_downs_98 : decode cX7_downs 98 = .ok (.invokevirtual 234, 3) := by decide +kernel
theorem dX7_downs_101 : decode cX7_downs 101 = .ok (.ifCond .eq 11, 3) := by decide +kernel
theorem dX7_downs_104 : decode cX7_downs 104 = .ok (.aload_n 0, 1) := by decide +kernel
theorem dX7_downs_105 : decode cX7_downs 105 = .ok (.getfield 54, 3) := by decide +kernel
theorem dX7_downs_108 : decode cX7_downs 108 = .ok (.iload_n 3, 1) := by decide +kernel
theorem dX7_downs_109 : decode cX7_downs 109 = .ok (.invokevirtual 247, 3) := by decide +kernel
theorem dX7_downs_112 : decode cX7_downs 112 = .ok (.iinc 3 1, 3) := by decide +kernel
theorem dX7_downs_115 : decode cX7_downs 115 = .ok (.goto (-73), 3) := by decide +kernel
theorem dX7_downs_118 : decode cX7_downs 118 = .ok (.aload_n 0, 1) := by decide +kernel
theorem dX7_downs_119 : decode cX7_downs 119 = .ok (.getfield 54, 3) := by decide +kernel
theorem dX7_downs_122 : decode cX7_downs 122 = .ok (.iload_n 2, 1) := by decide +kernel
theorem dX7_downs_123 : decode cX7_downs 123 = .ok (.invokevirtual 241, 3) := by decide +kernel
theorem dX7_downs_126 : decode cX7_downs 126 = .ok (.ireturn, 1) := by decide +kernel
theorem dX7_ask_0 : decode cX7_ask 0 = .ok (.iload_n 1, 1) := by decide +kernel
theorem dX7_ask_1 : decode cX7_ask 1 = .ok (.iconst 0, 1) := by decide +kernel
theorem dX7_ask_2 : decode cX7_ask 2 = .ok (.iconst 1, 1) := by decide +kernel
theorem dX7_ask_3 : decode cX7_ask 3 = .ok (.invokestatic 73, 3) := by decide +kernel
theorem dX7_ask_6 : decode cX7_ask 6 = .ok (.ifCond .ne 5, 3) := by decide +kernel
theorem dX7_ask_9 : decode cX7_ask 9 = .ok (.iconst (-1), 1) := by decide +kernel
theorem dX7_ask_10 : decode cX7_ask 10 = .ok (.ireturn, 1) := by decide +kernel
theorem dX7_ask_11 : decode cX7_ask 11 = .ok (.aload_n 0, 1) := by decide +kernel
theorem dX7_ask_12 : decode cX7_ask 12 = .ok (.invokevirtual 238, 3) := by decide +kernel
theorem dX7_ask_15 : decode cX7_ask 15 = .ok (.aload_n 0, 1) := by decide +kernel
theorem dX7_ask_16 : decode cX7_ask 16 = .ok (.getfield 54, 3) := by decide +kernel
theorem dX7_ask_19 : decode cX7_ask 19 = .ok (.getfield 250, 3) := by decide +kernel
theorem dX7_ask_22 : decode cX7_ask 22 = .ok (.istore_n 2, 1) := by decide +kernel
theorem dX7_ask_23 : decode cX7_ask 23 = .ok (.bipush (-4), 2) := by decide +kernel
theorem dX7_ask_25 : decode cX7_ask 25 = .ok (.istore_n 3, 1) := by decide +kernel
theorem dX7_ask_26 : decode cX7_ask 26 = .ok (.iconst 0, 1) := by decide +kernel
theorem dX7_ask_27 : decode cX7_ask 27 = .ok (.istore 4, 2) := by decide +kernel
theorem dX7_ask_29 : decode cX7_ask 29 = .ok (.iload 4, 2) := by decide +kernel
theorem dX7_ask_31 : decode cX7_ask 31 = .ok (.aload_n 0, 1) := by decide +kernel
theorem dX7_ask_32 : decode cX7_ask 32 = .ok (.getfield 10, 3) := by decide +kernel
theorem dX7_ask_35 : decode cX7_ask 35 = .ok (.getfield 109, 3) := by decide +kernel
theorem dX7_ask_38 : decode cX7_ask 38 = .ok (.if_icmp .ge 29, 3) := by decide +kernel
theorem dX7_ask_41 : decode cX7_ask 41 = .ok (.aload_n 0, 1) := by decide +kernel
theorem dX7_ask_42 : decode cX7_ask 42 = .ok (.iload 4, 2) := by decide +kernel
theorem dX7_ask_44 : decode cX7_ask 44 = .ok (.invokevirtual 253, 3) := by decide +kernel
theorem dX7_ask_47 : decode cX7_ask 47 = .ok (.istore 5, 2) := by decide +kernel
theorem dX7_ask_49 : decode cX7_ask 49 = .ok (.iload 5, 2) := by decide +kernel
theorem dX7_ask_51 : decode cX7_ask 51 = .ok (.iload_n 2, 1) := by decide +kernel
theorem dX7_ask_52 : decode cX7_ask 52 = .ok (.if_icmp .ge 9, 3) := by decide +kernel
theorem dX7_ask_55 : decode cX7_ask 55 = .ok (.iload 5, 2) := by decide +kernel
theorem dX7_ask_57 : decode cX7_ask 57 = .ok (.istore_n 2, 1) := by decide +kernel
theorem dX7_ask_58 : decode cX7_ask 58 = .ok (.iload 4, 2) := by decide +kernel
theorem dX7_ask_60 : decode cX7_ask 60 = .ok (.istore_n 3, 1) := by decide +kernel
theorem dX7_ask_61 : decode cX7_ask 61 = .ok (.iinc 4 1, 3) := by decide +kernel
theorem dX7_ask_64 : decode cX7_ask 64 = .ok (.goto (-35), 3) := by decide +kernel
theorem dX7_ask_67 : decode cX7_ask 67 = .ok (.iload_n 1, 1) := by decide +kernel
theorem dX7_ask_68 : decode cX7_ask 68 = .ok (.ifCond .eq 9, 3) := by decide +kernel
theorem dX7_ask_71 : decode cX7_ask 71 = .ok (.iload_n 3, 1) := by decide +kernel
theorem dX7_ask_72 : decode cX7_ask 72 = .ok (.bipush (-4), 2) := by decide +kernel
theorem dX7_ask_74 : decode cX7_ask 74 = .ok (.if_icmp .ne 7, 3) := by decide +kernel
theorem dX7_ask_77 : decode cX7_ask 77 = .ok (.iload_n 3, 1) := by decide +kernel
theorem dX7_ask_78 : decode cX7_ask 78 = .ok (.goto 4, 3) := by decide +kernel
theorem dX7_ask_81 : decode cX7_ask 81 = .ok (.iload_n 2, 1) := by decide +kernel
theorem dX7_ask_82 : decode cX7_ask 82 = .ok (.ireturn, 1) := by decide +kernel
theorem dX7_drift_0 : decode cX7_drift 0 = .ok (.iload_n 2, 1) := by decide +kernel
theorem dX7_drift_1 : decode cX7_drift 1 = .ok (.iconst 1, 1) := by decide +kernel
theorem dX7_drift_2 : decode cX7_drift 2 = .ok (.bipush 60, 2) := by decide +kernel
theorem dX7_drift_4 : decode cX7_drift 4 = .ok (.invokestatic 73, 3) := by decide +kernel
theorem dX7_drift_7 : decode cX7_drift 7 = .ok (.ifCond .eq 12, 3) := by decide +kernel
theorem dX7_drift_10 : decode cX7_drift 10 = .ok (.iload_n 3, 1) := by decide +kernel
theorem dX7_drift_11 : decode cX7_drift 11 = .ok (.iconst 0, 1) := by decide +kernel
theorem dX7_drift_12 : decode cX7_drift 12 = .ok (.iconst 1, 1) := by decide +kernel
theorem dX7_drift_13 : decode cX7_drift 13 = .ok (.invokestatic 73, 3) := by decide +kernel
theorem dX7_drift_16 : decode cX7_drift 16 = .ok (.ifCond .ne 5, 3) := by decide +kernel
theorem dX7_drift_19 : decode cX7_drift 19 = .ok (.iconst (-1), 1) := by decide +kernel
theorem dX7_drift_20 : decode cX7_drift 20 = .ok (.ireturn, 1) := by decide +kernel
theorem dX7_drift_21 : decode cX7_drift 21 = .ok (.aload_n 0, 1) := by decide +kernel
theorem dX7_drift_22 : decode cX7_drift 22 = .ok (.getfield 10, 3) := by decide +kernel
theorem dX7_drift_25 : decode cX7_drift 25 = .ok (.getfield 109, 3) := by decide +kernel
theorem dX7_drift_28 : decode cX7_drift 28 = .ok (.ifCond .ne 6, 3) := by decide +kernel
theorem dX7_drift_31 : decode cX7_drift 31 = .ok (.bipush (-2), 2) := by decide +kernel
theorem dX7_drift_33 : decode cX7_drift 33 = .ok (.ireturn, 1) := by decide +kernel
theorem dX7_drift_34 : decode cX7_drift 34 = .ok (.iconst 0, 1) := by decide +kernel
theorem dX7_drift_35 : decode cX7_drift 35 = .ok (.istore 4, 2) := by decide +kernel
theorem dX7_drift_37 : decode cX7_drift 37 = .ok (.iload_n 1, 1) := by decide +kernel
theorem dX7_drift_38 : decode cX7_drift 38 = .ok (.istore 5, 2) := by decide +kernel
theorem dX7_drift_40 : decode cX7_drift 40 = .ok (.aload_n 0, 1) := by decide +kernel
theorem dX7_drift_41 : decode cX7_drift 41 = .ok (.getfield 30, 3) := by decide +kernel
theorem dX7_drift_44 : decode cX7_drift 44 = .ok (.aload_n 0, 1) := by decide +kernel
theorem dX7_drift_45 : decode cX7_drift 45 = .ok (.getfield 10, 3) := by decide +kernel
theorem dX7_drift_48 : decode cX7_drift 48 = .ok (.invokevirtual 118, 3) := by decide +kernel
theorem dX7_drift_51 : decode cX7_drift 51 = .ok (.iconst 0, 1) := by decide +kernel
theorem dX7_drift_52 : decode cX7_drift 52 = .ok (.istore 6, 2) := by decide +kernel
theorem dX7_drift_54 : decode cX7_drift 54 = .ok (.iload 6, 2) := by decide +kernel
theorem dX7_drift_56 : decode cX7_drift 56 = .ok (.iload_n 2, 1) := by decide +kernel
theorem dX7_drift_57 : decode cX7_drift 57 = .ok (.if_icmp .ge 80, 3) := by decide +kernel
theorem dX7_drift_60 : decode cX7_drift 60 = .ok (.iload 5, 2) := by decide +kernel
theorem dX7_drift_62 : decode cX7_drift 62 = .ok (.ldc_w 256, 3) := by decide +kernel
theorem dX7_drift_65 : decode cX7_drift 65 = .ok (.imul, 1) := by decide +kernel
theorem dX7_drift_66 : decode cX7_drift 66 = .ok (.sipush 12345, 3) := by decide +kernel
theorem dX7_drift_69 : decode cX7_drift 69 = .ok (.iadd, 1) := by decide +kernel
theorem dX7_drift_70 : decode cX7_drift 70 = .ok (.istore 5, 2) := by decide +kernel
theorem dX7_drift_72 : decode cX7_drift 72 = .ok (.aload_n 0, 1) := by decide +kernel
theorem dX7_drift_73 : decode cX7_drift 73 = .ok (.getfield 30, 3) := by decide +kernel
theorem dX7_drift_76 : decode cX7_drift 76 = .ok (.aload_n 0, 1) := by decide +kernel
theorem dX7_drift_77 : decode cX7_drift 77 = .ok (.getfield 10, 3) := by decide +kernel
theorem dX7_drift_80 : decode cX7_drift 80 = .ok (.getfield 115, 3) := by decide +kernel
theorem dX7_drift_83 : decode cX7_drift 83 = .ok (.iload 5, 2) := by decide +kernel
theorem dX7_drift_85 : decode cX7_drift 85 = .ok (.bipush 16, 2) := by decide +kernel
theorem dX7_drift_87 : decode cX7_drift 87 = .ok (.iushr, 1) := by decide +kernel
theorem dX7_drift_88 : decode cX7_drift 88 = .ok (.sipush 32767, 3) := by decide +kernel
theorem dX7_drift_91 : decode cX7_drift 91 = .ok (.iand, 1) := by decide +kernel
theorem dX7_drift_92 : decode cX7_drift 92 = .ok (.bipush 100, 2) := by decide +kernel
theorem dX7_drift_94 : decode cX7_drift 94 = .ok (.irem, 1) := by decide +kernel
theorem dX7_drift_95 : decode cX7_drift 95 = .ok (.invokevirtual 194, 3) := by decide +kernel
theorem dX7_drift_98 : decode cX7_drift 98 = .ok (.iload_n 3, 1) := by decide +kernel
theorem dX7_drift_99 : decode cX7_drift 99 = .ok (.ifCond .ne 19, 3) := by decide +kernel
theorem dX7_drift_102 : decode cX7_drift 102 = .ok (.iload 4, 2) := by decide +kernel
theorem dX7_drift_104 : decode cX7_drift 104 = .ok (.aload_n 0, 1) := by decide +kernel
theorem dX7_drift_105 : decode cX7_drift 105 = .ok (.getfield 30, 3) := by decide +kernel
theorem dX7_drift_108 : decode cX7_drift 108 = .ok (.iconst 0, 1) := by decide +kernel
theorem dX7_drift_109 : decode cX7_drift 109 = .ok (.invokevirtual 152, 3) := by decide +kernel
theorem dX7_drift_112 : decode cX7_drift 112 = .ok (.iadd, 1) := by decide +kernel
theorem dX7_drift_113 : decode cX7_drift 113 = .ok (.istore 4, 2) := by decide +kernel
theorem dX7_drift_115 : decode cX7_drift 115 = .ok (.goto 16, 3) := by decide +kernel
theorem dX7_drift_118 : decode cX7_drift 118 = .ok (.aload_n 0, 1) := by decide +kernel
theorem dX7_drift_119 : decode cX7_drift 119 = .ok (.getfield 30, 3) := by decide +kernel
theorem dX7_drift_122 : decode cX7_drift 122 = .ok (.invokevirtual 208, 3) := by decide +kernel
theorem dX7_drift_125 : decode cX7_drift 125 = .ok (.ifCond .lt 6, 3) := by decide +kernel
theorem dX7_drift_128 : decode cX7_drift 128 = .ok (.iinc 4 1, 3) := by decide +kernel
theorem dX7_drift_131 : decode cX7_drift 131 = .ok (.iinc 6 1, 3) := by decide +kernel
theorem dX7_drift_134 : decode cX7_drift 134 = .ok (.goto (-80), 3) := by decide +kernel
theorem dX7_drift_137 : decode cX7_drift 137 = .ok (.iload 4, 2) := by decide +kernel
theorem dX7_drift_139 : decode cX7_drift 139 = .ok (.ireturn, 1) := by decide +kernel
theorem dX7_keep_0 : decode cX7_keep 0 = .ok (.iload_n 1, 1) := by decide +kernel
theorem dX7_keep_1 : decode cX7_keep 1 = .ok (.iconst 0, 1) := by decide +kernel
theorem dX7_keep_2 : decode cX7_keep 2 = .ok (.iconst 1, 1) := by decide +kernel
theorem dX7_keep_3 : decode cX7_keep 3 = .ok (.invokestatic 73, 3) := by decide +kernel
theorem dX7_keep_6 : decode cX7_keep 6 = .ok (.ifCond .ne 5, 3) := by decide +kernel
theorem dX7_keep_9 : decode cX7_keep 9 = .ok (.iconst (-1), 1) := by decide +kernel
theorem dX7_keep_10 : decode cX7_keep 10 = .ok (.ireturn, 1) := by decide +kernel
theorem dX7_keep_11 : decode cX7_keep 11 = .ok (.aload_n 0, 1) := by decide +kernel
theorem dX7_keep_12 : decode cX7_keep 12 = .ok (.getfield 23, 3) := by decide +kernel
theorem dX7_keep_15 : decode cX7_keep 15 = .ok (.iload_n 1, 1) := by decide +kernel
theorem dX7_keep_16 : decode cX7_keep 16 = .ok (.baload, 1) := by decide +kernel
theorem dX7_keep_17 : decode cX7_keep 17 = .ok (.ifCond .eq 7, 3) := by decide +kernel
theorem dX7_keep_20 : decode cX7_keep 20 = .ok (.iconst 1, 1) := by decide +kernel
theorem dX7_keep_21 : decode cX7_keep 21 = .ok (.goto 4, 3) := by decide +kernel
theorem dX7_keep_24 : decode cX7_keep 24 = .ok (.iconst 0, 1) := by decide +kernel
theorem dX7_keep_25 : decode cX7_keep 25 = .ok (.istore_n 2, 1) := by decide +kernel
theorem dX7_keep_26 : decode cX7_keep 26 = .ok (.aload_n 0, 1) := by decide +kernel
theorem dX7_keep_27 : decode cX7_keep 27 = .ok (.getfield 19, 3) := by decide +kernel
theorem dX7_keep_30 : decode cX7_keep 30 = .ok (.iload_n 1, 1) := by decide +kernel
theorem dX7_keep_31 : decode cX7_keep 31 = .ok (.aaload, 1) := by decide +kernel
theorem dX7_keep_32 : decode cX7_keep 32 = .ok (.aload_n 0, 1) := by decide +kernel
theorem dX7_keep_33 : decode cX7_keep 33 = .ok (.getfield 10, 3) := by decide +kernel
theorem dX7_keep_36 : decode cX7_keep 36 = .ok (.invokevirtual 102, 3) := by decide +kernel
theorem dX7_keep_39 : decode cX7_keep 39 = .ok (.aload_n 0, 1) := by decide +kernel
theorem dX7_keep_40 : decode cX7_keep 40 = .ok (.getfield 23, 3) := by decide +kernel
theorem dX7_keep_43 : decode cX7_keep 43 = .ok (.iload_n 1, 1) := by decide +kernel
theorem dX7_keep_44 : decode cX7_keep 44 = .ok (.iconst 1, 1) := by decide +kernel
theorem dX7_keep_45 : decode cX7_keep 45 = .ok (.bastore, 1) := by decide +kernel
theorem dX7_keep_46 : decode cX7_keep 46 = .ok (.iload_n 2, 1) := by decide +kernel
theorem dX7_keep_47 : decode cX7_keep 47 = .ok (.ireturn, 1) := by decide +kernel
theorem dX7_back_0 : decode cX7_back 0 = .ok (.iload_n 1, 1) := by decide +kernel
theorem dX7_back_1 : decode cX7_back 1 = .ok (.iconst 0, 1) := by decide +kernel
theorem dX7_back_2 : decode cX7_back 2 = .ok (.iconst 1, 1) := by decide +kernel
theorem dX7_back_3 : decode cX7_back 3 = .ok (.invokestatic 73, 3) := by decide +kernel
theorem dX7_back_6 : decode cX7_back 6 = .ok (.ifCond .ne 5, 3) := by decide +kernel
theorem dX7_back_9 : decode cX7_back 9 = .ok (.iconst (-1), 1) := by decide +kernel
theorem dX7_back_10 : decode cX7_back 10 = .ok (.ireturn, 1) := by decide +kernel
theorem dX7_back_11 : decode cX7_back 11 = .ok (.aload_n 0, 1) := by decide +kernel
theorem dX7_back_12 : decode cX7_back 12 = .ok (.getfield 23, 3) := by decide +kernel
theorem dX7_back_15 : decode cX7_back 15 = .ok (.iload_n 1, 1) := by decide +kernel
theorem dX7_back_16 : decode cX7_back 16 = .ok (.baload, 1) := by decide +kernel
theorem dX7_back_17 : decode cX7_back 17 = .ok (.ifCond .ne 6, 3) := by decide +kernel
theorem dX7_back_20 : decode cX7_back 20 = .ok (.bipush (-2), 2) := by decide +kernel
theorem dX7_back_22 : decode cX7_back 22 = .ok (.ireturn, 1) := by decide +kernel
theorem dX7_back_23 : decode cX7_back 23 = .ok (.aload_n 0, 1) := by decide +kernel
theorem dX7_back_24 : decode cX7_back 24 = .ok (.getfield 10, 3) := by decide +kernel
theorem dX7_back_27 : decode cX7_back 27 = .ok (.aload_n 0, 1) := by decide +kernel
theorem dX7_back_28 : decode cX7_back 28 = .ok (.getfield 19, 3) := by decide +kernel
theorem dX7_back_31 : decode cX7_back 31 = .ok (.iload_n 1, 1) := by decide +kernel
theorem dX7_back_32 : decode cX7_back 32 = .ok (.aaload, 1) := by decide +kernel
theorem dX7_back_33 : decode cX7_back 33 = .ok (.invokevirtual 102, 3) := by decide +kernel
theorem dX7_back_36 : decode cX7_back 36 = .ok (.aload_n 0, 1) := by decide +kernel
theorem dX7_back_37 : decode cX7_back 37 = .ok (.getfield 10, 3) := by decide +kernel
theorem dX7_back_40 : decode cX7_back 40 = .ok (.getfield 112, 3) := by decide +kernel
theorem dX7_back_43 : decode cX7_back 43 = .ok (.ireturn, 1) := by decide +kernel
theorem dX7_sheet_0 : decode cX7_sheet 0 = .ok (.iload_n 1, 1) := by decide +kernel
theorem dX7_sheet_1 : decode cX7_sheet 1 = .ok (.invokestatic 257, 3) := by decide +kernel
theorem dX7_sheet_4 : decode cX7_sheet 4 = .ok (.ifCond .eq 16, 3) := by decide +kernel
theorem dX7_sheet_7 : decode cX7_sheet 7 = .ok (.iload_n 2, 1) := by decide +kernel
theorem dX7_sheet_8 : decode cX7_sheet 8 = .ok (.invokestatic 260, 3) := by decide +kernel
theorem dX7_sheet_11 : decode cX7_sheet 11 = .ok (.ifCond .eq 9, 3) := by decide +kernel
theorem dX7_sheet_14 : decode cX7_sheet 14 = .ok (.iload_n 3, 1) := by decide +kernel
theorem dX7_sheet_15 : decode cX7_sheet 15 = .ok (.bipush 40, 2) := by decide +kernel
theorem dX7_sheet_17 : decode cX7_sheet 17 = .ok (.if_icmp .le 5, 3) := by decide +kernel
theorem dX7_sheet_20 : decode cX7_sheet 20 = .ok (.iconst (-1), 1) := by decide +kernel
theorem dX7_sheet_21 : decode cX7_sheet 21 = .ok (.ireturn, 1) := by decide +kernel
theorem dX7_sheet_22 : decode cX7_sheet 22 = .ok (.iload_n 3, 1) := by decide +kernel
theorem dX7_sheet_23 : decode cX7_sheet 23 = .ok (.ifCond .ge 6, 3) := by decide +kernel
theorem dX7_sheet_26 : decode cX7_sheet 26 = .ok (.bipush (-14), 2) := by decide +kernel
theorem dX7_sheet_28 : decode cX7_sheet 28 = .ok (.ireturn, 1) := by decide +kernel
theorem dX7_sheet_29 : decode cX7_sheet 29 = .ok (.aload_n 0, 1) := by decide +kernel
theorem dX7_sheet_30 : decode cX7_sheet 30 = .ok (.getfield 64, 3) := by decide +kernel
theorem dX7_sheet_33 : decode cX7_sheet 33 = .ok (.iload_n 1, 1) := by decide +kernel
theorem dX7_sheet_34 : decode cX7_sheet 34 = .ok (.aaload, 1) := by decide +kernel
theorem dX7_sheet_35 : decode cX7_sheet 35 = .ok (.iload_n 2, 1) := by decide +kernel
theorem dX7_sheet_36 : decode cX7_sheet 36 = .ok (.iload_n 3, 1) := by decide +kernel
theorem dX7_sheet_37 : decode cX7_sheet 37 = .ok (.invokevirtual 263, 3) := by decide +kernel
theorem dX7_sheet_40 : decode cX7_sheet 40 = .ok (.iconst 1, 1) := by decide +kernel
theorem dX7_sheet_41 : decode cX7_sheet 41 = .ok (.ireturn, 1) := by decide +kernel
theorem dX7_lay_0 : decode cX7_lay 0 = .ok (.iload_n 1, 1) := by decide +kernel
theorem dX7_lay_1 : decode cX7_lay 1 = .ok (.invokestatic 257, 3) := by decide +kernel
theorem dX7_lay_4 : decode cX7_lay 4 = .ok (.ifCond .ne 5, 3) := by decide +kernel
theorem dX7_lay_7 : decode cX7_lay 7 = .ok (.iconst (-1), 1) := by decide +kernel
theorem dX7_lay_8 : decode cX7_lay 8 = .ok (.ireturn, 1) := by decide +kernel
theorem dX7_lay_9 : decode cX7_lay 9 = .ok (.aload_n 0, 1) := by decide +kernel
theorem dX7_lay_10 : decode cX7_lay 10 = .ok (.getfield 64, 3) := by decide +kernel
theorem dX7_lay_13 : decode cX7_lay 13 = .ok (.iload_n 1, 1) := by decide +kernel
theorem dX7_lay_14 : decode cX7_lay 14 = .ok (.aaload, 1) := by decide +kernel
theorem dX7_lay_15 : decode cX7_lay 15 = .ok (.iload_n 2, 1) := by decide +kernel
theorem dX7_lay_16 : decode cX7_lay 16 = .ok (.invokevirtual 266, 3) := by decide +kernel
theorem dX7_lay_19 : decode cX7_lay 19 = .ok (.istore 4, 2) := by decide +kernel
theorem dX7_lay_21 : decode cX7_lay 21 = .ok (.iload 4, 2) := by decide +kernel
theorem dX7_lay_23 : decode cX7_lay 23 = .ok (.ifCond .eq 9, 3) := by decide +kernel
theorem dX7_lay_26 : decode cX7_lay 26 = .ok (.bipush (-10), 2) := by decide +kernel
theorem dX7_lay_28 : decode cX7_lay 28 = .ok (.iload 4, 2) := by decide +kernel
theorem dX7_lay_30 : decode cX7_lay 30 = .ok (.isub, 1) := by decide +kernel
theorem dX7_lay_31 : decode cX7_lay 31 = .ok (.ireturn, 1) := by decide +kernel
theorem dX7_lay_32 : decode cX7_lay 32 = .ok (.aload_n 0, 1) := by decide +kernel
theorem dX7_lay_33 : decode cX7_lay 33 = .ok (.getfield 64, 3) := by decide +kernel
theorem dX7_lay_36 : decode cX7_lay 36 = .ok (.iload_n 1, 1) := by decide +kernel
theorem dX7_lay_37 : decode cX7_lay 37 = .ok (.aaload, 1) := by decide +kernel
theorem dX7_lay_38 : decode cX7_lay 38 = .ok (.iload_n 2, 1) := by decide +kernel
theorem dX7_lay_39 : decode cX7_lay 39 = .ok (.iload_n 3, 1) := by decide +kernel
theorem dX7_lay_40 : decode cX7_lay 40 = .ok (.invokevirtual 269, 3) := by decide +kernel
theorem dX7_lay_43 : decode cX7_lay 43 = .ok (.iconst 1, 1) := by decide +kernel
theorem dX7_lay_44 : decode cX7_lay 44 = .ok (.ireturn, 1) := by decide +kernel
theorem dX7_read_0 : decode cX7_read 0 = .ok (.iload_n 1, 1) := by decide +kernel
theorem dX7_read_1 : decode cX7_read 1 = .ok (.invokestatic 257, 3) := by decide +kernel
theorem dX7_read_4 : decode cX7_read 4 = .ok (.ifCond .eq 21, 3) := by decide +kernel
theorem dX7_read_7 : decode cX7_read 7 = .ok (.iload_n 2, 1) := by decide +kernel
theorem dX7_read_8 : decode cX7_read 8 = .ok (.invokestatic 260, 3) := by decide +kernel
theorem dX7_read_11 : decode cX7_read 11 = .ok (.ifCond .eq 14, 3) := by decide +kernel
theorem dX7_read_14 : decode cX7_read 14 = .ok (.iload 4, 2) := by decide +kernel
theorem dX7_read_16 : decode cX7_read 16 = .ok (.iconst 0, 1) := by decide +kernel
theorem dX7_read_17 : decode cX7_read 17 = .ok (.bipush 20, 2) := by decide +kernel
theorem dX7_read_19 : decode cX7_read 19 = .ok (.invokestatic 73, 3) := by decide +kernel
theorem dX7_read_22 : decode cX7_read 22 = .ok (.ifCond .ne 5, 3) := by decide +kernel
theorem dX7_read_25 : decode cX7_read 25 = .ok (.iconst (-1), 1) := by decide +kernel
theorem dX7_read_26 : decode cX7_read 26 = .ok (.ireturn, 1) := by decide +kernel
theorem dX7_read_27 : decode cX7_read 27 = .ok (.aload_n 0, 1) := by decide +kernel
theorem dX7_read_28 : decode cX7_read 28 = .ok (.getfield 64, 3) := by decide +kernel
theorem dX7_read_31 : decode cX7_read 31 = .ok (.iload_n 1, 1) := by decide +kernel
theorem dX7_read_32 : decode cX7_read 32 = .ok (.aaload, 1) := by decide +kernel
theorem dX7_read_33 : decode cX7_read 33 = .ok (.astore 5, 2) := by decide +kernel
theorem dX7_read_35 : decode cX7_read 35 = .ok (.aload_n 0, 1) := by decide +kernel
theorem dX7_read_36 : decode cX7_read 36 = .ok (.getfield 10, 3) := by decide +kernel
theorem dX7_read_39 : decode cX7_read 39 = .ok (.getfield 109, 3) := by decide +kernel
theorem dX7_read_42 : decode cX7_read 42 = .ok (.istore 6, 2) := by decide +kernel
theorem dX7_read_44 : decode cX7_read 44 = .ok (.iconst 0, 1) := by decide +kernel
theorem dX7_read_45 : decode cX7_read 45 = .ok (.istore 7, 2) := by decide +kernel
theorem dX7_read_47 : decode cX7_read 47 = .ok (.iconst 0, 1) := by decide +kernel
theorem dX7_read_48 : decode cX7_read 48 = .ok (.istore 8, 2) := by decide +kernel
theorem dX7_read_50 : decode cX7_read 50 = .ok (.iload 8, 2) := by decide +kernel
theorem dX7_read_52 : decode cX7_read 52 = .ok (.iload 4, 2) := by decide +kernel
theorem dX7_read_54 : decode cX7_read 54 = .ok (.if_icmp .ge 78, 3) := by decide +kernel
theorem dX7_read_57 : decode cX7_read 57 = .ok (.iload 7, 2) := by decide +kernel
theorem dX7_read_59 : decode cX7_read 59 = .ok (.ifCond .ne 73, 3) := by decide +kernel
theorem dX7_read_62 : decode cX7_read 62 = .ok (.iload_n 3, 1) := by decide +kernel
theorem dX7_read_63 : decode cX7_read 63 = .ok (.iconst 2, 1) := by decide +kernel
theorem dX7_read_64 : decode cX7_read 64 = .ok (.iload 8, 2) := by decide +kernel
theorem dX7_read_66 : decode cX7_read 66 = .ok (.imul, 1) := by decide +kernel
theorem dX7_read_67 : decode cX7_read 67 = .ok (.iadd, 1) := by decide +kernel
theorem dX7_read_68 : decode cX7_read 68 = .ok (.istore 9, 2) := by decide +kernel
theorem dX7_read_70 : decode cX7_read 70 = .ok (.aload 5, 2) := by decide +kernel
theorem dX7_read_72 : decode cX7_read 72 = .ok (.iload_n 2, 1) := by decide +kernel
theorem dX7_read_73 : decode cX7_read 73 = .ok (.iload 9, 2) := by decide +kernel
theorem dX7_read_75 : decode cX7_read 75 = .ok (.invokevirtual 272, 3) := by decide +kernel
theorem dX7_read_78 : decode cX7_read 78 = .ok (.istore 7, 2) := by decide +kernel
theorem dX7_read_80 : decode cX7_read 80 = .ok (.iload 7, 2) := by decide +kernel
theorem dX7_read_82 : decode cX7_read 82 = .ok (.ifCond .ne 44, 3) := by decide +kernel
theorem dX7_read_85 : decode cX7_read 85 = .ok (.aload_n 0, 1) := by decide +kernel
theorem dX7_read_86 : decode cX7_read 86 = .ok (.getfield 10, 3) := by decide +kernel
theorem dX7_read_89 : decode cX7_read 89 = .ok (.aload 5, 2) := by decide +kernel
theorem dX7_read_91 : decode cX7_read 91 = .ok (.iload 9, 2) := by decide +kernel
theorem dX7_read_93 : decode cX7_read 93 = .ok (.invokevirtual 275, 3) := by decide +kernel
theorem dX7_read_96 : decode cX7_read 96 = .ok (.aload 5, 2) := by decide +kernel
theorem dX7_read_98 : decode cX7_read 98 = .ok (.iload 9, 2) := by decide +kernel
theorem dX7_read_100 : decode cX7_read 100 = .ok (.iconst 1, 1) := by decide +kernel
theorem dX7_read_101 : decode cX7_read 101 = .ok (.iadd, 1) := by decide +kernel
theorem dX7_read_102 : decode cX7_read 102 = .ok (.invokevirtual 275, 3) := by decide +kernel
theorem dX7_read_105 : decode cX7_read 105 = .ok (.invokevirtual 170, 3) := by decide +kernel
theorem dX7_read_108 : decode cX7_read 108 = .ok (.ifCond .ge 18, 3) := by decide +kernel
theorem dX7_read_111 : decode cX7_read 111 = .ok (.aload_n 0, 1) := by decide +kernel
theorem dX7_read_112 : decode cX7_read 112 = .ok (.getfield 10, 3) := by decide +kernel
theorem dX7_read_115 : decode cX7_read 115 = .ok (.iload 6, 2) := by decide +kernel
theorem dX7_read_117 : decode cX7_read 117 = .ok (.putfield 109, 3) := by decide +kernel
theorem dX7_read_120 : decode cX7_read 120 = .ok (.bipush (-20), 2) := by decide +kernel
theorem dX7_read_122 : decode cX7_read 122 = .ok (.iload 8, 2) := by decide +kernel
theorem dX7_read_124 : decode cX7_read 124 = .ok (.isub, 1) := by decide +kernel
theorem dX7_read_125 : decode cX7_read 125 = .ok (.ireturn, 1) := by decide +kernel
theorem dX7_read_126 : decode cX7_read 126 = .ok (.iinc 8 1, 3) := by decide +kernel
theorem dX7_read_129 : decode cX7_read 129 = .ok (.goto (-79), 3) := by decide +kernel
theorem dX7_read_132 : decode cX7_read 132 = .ok (.aload_n 0, 1) := by decide +kernel
theorem dX7_read_133 : decode cX7_read 133 = .ok (.iload 7, 2) := by decide +kernel
theorem dX7_read_135 : decode cX7_read 135 = .ok (.putfield 68, 3) := by decide +kernel
theorem dX7_read_138 : decode cX7_read 138 = .ok (.aload_n 0, 1) := by decide +kernel
theorem dX7_read_139 : decode cX7_read 139 = .ok (.getfield 10, 3) := by decide +kernel
theorem dX7_read_142 : decode cX7_read 142 = .ok (.getfield 109, 3) := by decide +kernel
theorem dX7_read_145 : decode cX7_read 145 = .ok (.iload 6, 2) := by decide +kernel
theorem dX7_read_147 : decode cX7_read 147 = .ok (.isub, 1) := by decide +kernel
theorem dX7_read_148 : decode cX7_read 148 = .ok (.ireturn, 1) := by decide +kernel
theorem dX7_torn_0 : decode cX7_torn 0 = .ok (.aload_n 0, 1) := by decide +kernel
theorem dX7_torn_1 : decode cX7_torn 1 = .ok (.getfield 68, 3) := by decide +kernel
theorem dX7_torn_4 : decode cX7_torn 4 = .ok (.ireturn, 1) := by decide +kernel
theorem dX7_count_0 : decode cX7_count 0 = .ok (.iload_n 1, 1) := by decide +kernel
theorem dX7_count_1 : decode cX7_count 1 = .ok (.tableswitch 127 0 4 #[35, 43, 73, 84, 111], 35) := by decide +kernel
theorem dX7_count_36 : decode cX7_count 36 = .ok (.aload_n 0, 1) := by decide +kernel
theorem dX7_count_37 : decode cX7_count 37 = .ok (.getfield 10, 3) := by decide +kernel
theorem dX7_count_40 : decode cX7_count 40 = .ok (.getfield 231, 3) := by decide +kernel
theorem dX7_count_43 : decode cX7_count 43 = .ok (.ireturn, 1) := by decide +kernel
theorem dX7_count_44 : decode cX7_count 44 = .ok (.aload_n 0, 1) := by decide +kernel
theorem dX7_count_45 : decode cX7_count 45 = .ok (.getfield 23, 3) := by decide +kernel
theorem dX7_count_48 : decode cX7_count 48 = .ok (.iconst 0, 1) := by decide +kernel
theorem dX7_count_49 : decode cX7_count 49 = .ok (.baload, 1) := by decide +kernel
theorem dX7_count_50 : decode cX7_count 50 = .ok (.ifCond .eq 7, 3) := by decide +kernel
theorem dX7_count_53 : decode cX7_count 53 = .ok (.iconst 1, 1) := by decide +kernel
theorem dX7_count_54 : decode cX7_count 54 = .ok (.goto 4, 3) := by decide +kernel
theorem dX7_count_57 : decode cX7_count 57 = .ok (.iconst 0, 1) := by decide +kernel
theorem dX7_count_58 : decode cX7_count 58 = .ok (.aload_n 0, 1) := by decide +kernel
theorem dX7_count_59 : decode cX7_count 59 = .ok (.getfield 23, 3) := by decide +kernel
theorem dX7_count_62 : decode cX7_count 62 = .ok (.iconst 1, 1) := by decide +kernel
theorem dX7_count_63 : decode cX7_count 63 = .ok (.baload, 1) := by decide +kernel
theorem dX7_count_64 : decode cX7_count 64 = .ok (.ifCond .eq 7, 3) := by decide +kernel
theorem dX7_count_67 : decode cX7_count 67 = .ok (.iconst 1, 1) := by decide +kernel
theorem dX7_count_68 : decode cX7_count 68 = .ok (.goto 4, 3) := by decide +kernel
theorem dX7_count_71 : decode cX7_count 71 = .ok (.iconst 0, 1) := by decide +kernel
theorem dX7_count_72 : decode cX7_count 72 = .ok (.iadd, 1) := by decide +kernel
theorem dX7_count_73 : decode cX7_count 73 = .ok (.ireturn, 1) := by decide +kernel
theorem dX7_count_74 : decode cX7_count 74 = .ok (.aload_n 0, 1) := by decide +kernel
theorem dX7_count_75 : decode cX7_count 75 = .ok (.getfield 40, 3) := by decide +kernel
theorem dX7_count_78 : decode cX7_count 78 = .ok (.getfield 77, 3) := by decide +kernel
theorem dX7_count_81 : decode cX7_count 81 = .ok (.getfield 87, 3) := by decide +kernel
theorem dX7_count_84 : decode cX7_count 84 = .ok (.ireturn, 1) := by decide +kernel
theorem dX7_count_85 : decode cX7_count 85 = .ok (.aload_n 0, 1) := by decide +kernel
theorem dX7_count_86 : decode cX7_count 86 = .ok (.getfield 64, 3) := by decide +kernel
theorem dX7_count_89 : decode cX7_count 89 = .ok (.iconst 0, 1) := by decide +kernel
theorem dX7_count_90 : decode cX7_count 90 = .ok (.aaload, 1) := by decide +kernel
theorem dX7_count_91 : decode cX7_count 91 = .ok (.getfield 278, 3) := by decide +kernel
theorem dX7_count_94 : decode cX7_count 94 = .ok (.ifCond .ge 8, 3) := by decide +kernel
theorem dX7_count_97 : decode cX7_count 97 = .ok (.bipush (-4), 2) := by decide +kernel
theorem dX7_count_99 : decode cX7_count 99 = .ok (.goto 12, 3) := by decide +kernel
theorem dX7_count_102 : decode cX7_count 102 = .ok (.aload_n 0, 1) := by decide +kernel
theorem dX7_count_103 : decode cX7_count 103 = .ok (.getfield 64, 3) := by decide +kernel
theorem dX7_count_106 : decode cX7_count 106 = .ok (.iconst 0, 1) := by decide +kernel
theorem dX7_count_107 : decode cX7_count 107 = .ok (.aaload, 1) := by decide +kernel
theorem dX7_count_108 : decode cX7_count 108 = .ok (.getfield 278, 3) := by decide +kernel
theorem dX7_count_111 : decode cX7_count 111 = .ok (.ireturn, 1) := by decide +kernel
theorem dX7_count_112 : decode cX7_count 112 = .ok (.aload_n 0, 1) := by decide +kernel
theorem dX7_count_113 : decode cX7_count 113 = .ok (.getfield 10, 3) := by decide +kernel
theorem dX7_count_116 : decode cX7_count 116 = .ok (.getfield 112, 3) := by decide +kernel
theorem dX7_count_119 : decode cX7_count 119 = .ok (.aload_n 0, 1) := by decide +kernel
theorem dX7_count_120 : decode cX7_count 120 = .ok (.invokevirtual 134, 3) := by decide +kernel
theorem dX7_count_123 : decode cX7_count 123 = .ok (.invokevirtual 138, 3) := by decide +kernel
theorem dX7_count_126 : decode cX7_count 126 = .ok (.isub, 1) := by decide +kernel
theorem dX7_count_127 : decode cX7_count 127 = .ok (.ireturn, 1) := by decide +kernel
theorem dX7_count_128 : decode cX7_count 128 = .ok (.iconst (-1), 1) := by decide +kernel
theorem dX7_count_129 : decode cX7_count 129 = .ok (.ireturn, 1) := by decide +kernel
theorem dX7_within_0 : decode cX7_within 0 = .ok (.iload_n 0, 1) := by decide +kernel
theorem dX7_within_1 : decode cX7_within 1 = .ok (.iload_n 1, 1) := by decide +kernel
theorem dX7_within_2 : decode cX7_within 2 = .ok (.if_icmp .lt 12, 3) := by decide +kernel
theorem dX7_within_5 : decode cX7_within 5 = .ok (.iload_n 0, 1) := by decide +kernel
theorem dX7_within_6 : decode cX7_within 6 = .ok (.iload_n 2, 1) := by decide +kernel
theorem dX7_within_7 : decode cX7_within 7 = .ok (.if_icmp .gt 7, 3) := by decide +kernel
theorem dX7_within_10 : decode cX7_within 10 = .ok (.iconst 1, 1) := by decide +kernel
theorem dX7_within_11 : decode cX7_within 11 = .ok (.goto 4, 3) := by decide +kernel
theorem dX7_within_14 : decode cX7_within 14 = .ok (.iconst 0, 1) := by decide +kernel
theorem dX7_within_15 : decode cX7_within 15 = .ok (.ireturn, 1) := by decide +kernel
theorem dX7_isHerd_0 : decode cX7_isHerd 0 = .ok (.iload_n 0, 1) := by decide +kernel
theorem dX7_isHerd_1 : decode cX7_isHerd 1 = .ok (.iconst 0, 1) := by decide +kernel
theorem dX7_isHerd_2 : decode cX7_isHerd 2 = .ok (.sipush 999, 3) := by decide +kernel
theorem dX7_isHerd_5 : decode cX7_isHerd 5 = .ok (.invokestatic 73, 3) := by decide +kernel
theorem dX7_isHerd_8 : decode cX7_isHerd 8 = .ok (.ireturn, 1) := by decide +kernel
theorem dX7_isKind_0 : decode cX7_isKind 0 = .ok (.iload_n 0, 1) := by decide +kernel
theorem dX7_isKind_1 : decode cX7_isKind 1 = .ok (.iconst 0, 1) := by decide +kernel
theorem dX7_isKind_2 : decode cX7_isKind 2 = .ok (.iconst 3, 1) := by decide +kernel
theorem dX7_isKind_3 : decode cX7_isKind 3 = .ok (.invokestatic 73, 3) := by decide +kernel
theorem dX7_isKind_6 : decode cX7_isKind 6 = .ok (.ireturn, 1) := by decide +kernel
theorem dX7_isSheet_0 : decode cX7_isSheet 0 = .ok (.iload_n 0, 1) := by decide +kernel
theorem dX7_isSheet_1 : decode cX7_isSheet 1 = .ok (.iconst 0, 1) := by decide +kernel
theorem dX7_isSheet_2 : decode cX7_isSheet 2 = .ok (.iconst 3, 1) := by decide +kernel
theorem dX7_isSheet_3 : decode cX7_isSheet 3 = .ok (.invokestatic 73, 3) := by decide +kernel
theorem dX7_isSheet_6 : decode cX7_isSheet 6 = .ok (.ireturn, 1) := by decide +kernel
theorem dX7_isLane_0 : decode cX7_isLane 0 = .ok (.iload_n 0, 1) := by decide +kernel
theorem dX7_isLane_1 : decode cX7_isLane 1 = .ok (.iconst 0, 1) := by decide +kernel
theorem dX7_isLane_2 : decode cX7_isLane 2 = .ok (.iconst 2, 1) := by decide +kernel
theorem dX7_isLane_3 : decode cX7_isLane 3 = .ok (.invokestatic 73, 3) := by decide +kernel
theorem dX7_isLane_6 : decode cX7_isLane 6 = .ok (.ireturn, 1) := by decide +kernel
theorem dX7_quotient_0 : decode cX7_quotient 0 = .ok (.lload_n 2, 1) := by decide +kernel
theorem dX7_quotient_1 : decode cX7_quotient 1 = .ok (.lconst 0, 1) := by decide +kernel
theorem dX7_quotient_2 : decode cX7_quotient 2 = .ok (.lcmp, 1) := by decide +kernel
theorem dX7_quotient_3 : decode cX7_quotient 3 = .ok (.ifCond .le 9, 3) := by decide +kernel
theorem dX7_quotient_6 : decode cX7_quotient 6 = .ok (.lload_n 0, 1) := by decide +kernel
theorem dX7_quotient_7 : decode cX7_quotient 7 = .ok (.lload_n 2, 1) := by decide +kernel
theorem dX7_quotient_8 : decode cX7_quotient 8 = .ok (.ldiv, 1) := by decide +kernel
theorem dX7_quotient_9 : decode cX7_quotient 9 = .ok (.goto 4, 3) := by decide +kernel
theorem dX7_quotient_12 : decode cX7_quotient 12 = .ok (.lconst 0, 1) := by decide +kernel
theorem dX7_quotient_13 : decode cX7_quotient 13 = .ok (.lreturn, 1) := by decide +kernel
theorem dX7_remainder_0 : decode cX7_remainder 0 = .ok (.lload_n 2, 1) := by decide +kernel
theorem dX7_remainder_1 : decode cX7_remainder 1 = .ok (.lconst 0, 1) := by decide +kernel
theorem dX7_remainder_2 : decode cX7_remainder 2 = .ok (.lcmp, 1) := by decide +kernel
theorem dX7_remainder_3 : decode cX7_remainder 3 = .ok (.ifCond .le 9, 3) := by decide +kernel
theorem dX7_remainder_6 : decode cX7_remainder 6 = .ok (.lload_n 0, 1) := by decide +kernel
theorem dX7_remainder_7 : decode cX7_remainder 7 = .ok (.lload_n 2, 1) := by decide +kernel
theorem dX7_remainder_8 : decode cX7_remainder 8 = .ok (.lrem, 1) := by decide +kernel
theorem dX7_remainder_9 : decode cX7_remainder 9 = .ok (.goto 4, 3) := by decide +kernel
theorem dX7_remainder_12 : decode cX7_remainder 12 = .ok (.lconst 0, 1) := by decide +kernel
theorem dX7_remainder_13 : decode cX7_remainder 13 = .ok (.lreturn, 1) := by decide +kernel
theorem dX7_fraction_0 : decode cX7_fraction 0 = .ok (.lload_n 0, 1) := by decide +kernel
theorem dX7_fraction_1 : decode cX7_fraction 1 = .ok (.invokestatic 281, 3) := by decide +kernel
theorem dX7_fraction_4 : decode cX7_fraction 4 = .ok (.lload_n 2, 1) := by decide +kernel
theorem dX7_fraction_5 : decode cX7_fraction 5 = .ok (.invokestatic 287, 3) := by decide +kernel
theorem dX7_fraction_8 : decode cX7_fraction 8 = .ok (.lstore 5, 2) := by decide +kernel
theorem dX7_fraction_10 : decode cX7_fraction 10 = .ok (.iload 4, 2) := by decide +kernel
theorem dX7_fraction_12 : decode cX7_fraction 12 = .ok (.ifCond .ne 7, 3) := by decide +kernel
theorem dX7_fraction_15 : decode cX7_fraction 15 = .ok (.lload_n 0, 1) := by decide +kernel
theorem dX7_fraction_16 : decode cX7_fraction 16 = .ok (.goto 4, 3) := by decide +kernel
theorem dX7_fraction_19 : decode cX7_fraction 19 = .ok (.lload_n 2, 1) := by decide +kernel
theorem dX7_fraction_20 : decode cX7_fraction 20 = .ok (.lload 5, 2) := by decide +kernel
theorem dX7_fraction_22 : decode cX7_fraction 22 = .ok (.invokestatic 291, 3) := by decide +kernel
theorem dX7_fraction_25 : decode cX7_fraction 25 = .ok (.lreturn, 1) := by decide +kernel
theorem dX7_divisor_0 : decode cX7_divisor 0 = .ok (.lload_n 0, 1) := by decide +kernel
theorem dX7_divisor_1 : decode cX7_divisor 1 = .ok (.lstore 4, 2) := by decide +kernel
theorem dX7_divisor_3 : decode cX7_divisor 3 = .ok (.lload_n 2, 1) := by decide +kernel
theorem dX7_divisor_4 : decode cX7_divisor 4 = .ok (.lstore 6, 2) := by decide +kernel
theorem dX7_divisor_6 : decode cX7_divisor 6 = .ok (.iconst 0, 1) := by decide +kernel
theorem dX7_divisor_7 : decode cX7_divisor 7 = .ok (.istore 8, 2) := by decide +kernel
theorem dX7_divisor_9 : decode cX7_divisor 9 = .ok (.iload 8, 2) := by decide +kernel
theorem dX7_divisor_11 : decode cX7_divisor 11 = .ok (.bipush 100, 2) := by decide +kernel
theorem dX7_divisor_13 : decode cX7_divisor 13 = .ok (.if_icmp .ge 33, 3) := by decide +kernel
theorem dX7_divisor_16 : decode cX7_divisor 16 = .ok (.lload 6, 2) := by decide +kernel
theorem dX7_divisor_18 : decode cX7_divisor 18 = .ok (.lconst 0, 1) := by decide +kernel
theorem dX7_divisor_19 : decode cX7_divisor 19 = .ok (.lcmp, 1) := by decide +kernel
theorem dX7_divisor_20 : decode cX7_divisor 20 = .ok (.ifCond .eq 26, 3) := by decide +kernel
theorem dX7_divisor_23 : decode cX7_divisor 23 = .ok (.lload 4, 2) := by decide +kernel
theorem dX7_divisor_25 : decode cX7_divisor 25 = .ok (.lload 6, 2) := by decide +kernel
theorem dX7_divisor_27 : decode cX7_divisor 27 = .ok (.invokestatic 294, 3) := by decide +kernel
theorem dX7_divisor_30 : decode cX7_divisor 30 = .ok (.lstore 9, 2) := by decide +kernel
theorem dX7_divisor_32 : decode cX7_divisor 32 = .ok (.lload 6, 2) := by decide +kernel
theorem dX7_divisor_34 : decode cX7_divisor 34 = .ok (.lstore 4, 2) := by decide +kernel
theorem dX7_divisor_36 : decode cX7_divisor 36 = .ok (.lload 9, 2) := by decide +kernel
theorem dX7_divisor_38 : decode cX7_divisor 38 = .ok (.lstore 6, 2) := by decide +kernel
theorem dX7_divisor_40 : decode cX7_divisor 40 = .ok (.iinc 8 1, 3) := by decide +kernel
theorem dX7_divisor_43 : decode cX7_divisor 43 = .ok (.goto (-34), 3) := by decide +kernel
theorem dX7_divisor_46 : decode cX7_divisor 46 = .ok (.lload 4, 2) := by decide +kernel
theorem dX7_divisor_48 : decode cX7_divisor 48 = .ok (.lreturn, 1) := by decide +kernel
theorem dX7_power_0 : decode cX7_power 0 = .ok (.lconst 1, 1) := by decide +kernel
theorem dX7_power_1 : decode cX7_power 1 = .ok (.lstore_n 2, 1) := by decide +kernel
theorem dX7_power_2 : decode cX7_power 2 = .ok (.iconst 0, 1) := by decide +kernel
theorem dX7_power_3 : decode cX7_power 3 = .ok (.istore 4, 2) := by decide +kernel
theorem dX7_power_5 : decode cX7_power 5 = .ok (.iload 4, 2) := by decide +kernel
theorem dX7_power_7 : decode cX7_power 7 = .ok (.iload_n 1, 1) := by decide +kernel
theorem dX7_power_8 : decode cX7_power 8 = .ok (.if_icmp .ge 14, 3) := by decide +kernel
theorem dX7_power_11 : decode cX7_power 11 = .ok (.lload_n 2, 1) := by decide +kernel
theorem dX7_power_12 : decode cX7_power 12 = .ok (.iload_n 0, 1) := by decide +kernel
theorem dX7_power_13 : decode cX7_power 13 = .ok (.i2l, 1) := by decide +kernel
theorem dX7_power_14 : decode cX7_power 14 = .ok (.lmul, 1) := by decide +kernel
theorem dX7_power_15 : decode cX7_power 15 = .ok (.lstore_n 2, 1) := by decide +kernel
theorem dX7_power_16 : decode cX7_power 16 = .ok (.iinc 4 1, 3) := by decide +kernel
theorem dX7_power_19 : decode cX7_power 19 = .ok (.goto (-14), 3) := by decide +kernel
theorem dX7_power_22 : decode cX7_power 22 = .ok (.lload_n 2, 1) := by decide +kernel
theorem dX7_power_23 : decode cX7_power 23 = .ok (.lreturn, 1) := by decide +kernel
theorem dX7_odds_0 : decode cX7_odds 0 = .ok (.lconst 1, 1) := by decide +kernel
theorem dX7_odds_1 : decode cX7_odds 1 = .ok (.lstore_n 3, 1) := by decide +kernel
theorem dX7_odds_2 : decode cX7_odds 2 = .ok (.iconst 1, 1) := by decide +kernel
theorem dX7_odds_3 : decode cX7_odds 3 = .ok (.istore 5, 2) := by decide +kernel
theorem dX7_odds_5 : decode cX7_odds 5 = .ok (.iload 5, 2) := by decide +kernel
theorem dX7_odds_7 : decode cX7_odds 7 = .ok (.iload_n 1, 1) := by decide +kernel
theorem dX7_odds_8 : decode cX7_odds 8 = .ok (.if_icmp .gt 25, 3) := by decide +kernel
theorem dX7_odds_11 : decode cX7_odds 11 = .ok (.lload_n 3, 1) := by decide +kernel
theorem dX7_odds_12 : decode cX7_odds 12 = .ok (.iload_n 0, 1) := by decide +kernel
theorem dX7_odds_13 : decode cX7_odds 13 = .ok (.iload_n 1, 1) := by decide +kernel
theorem dX7_odds_14 : decode cX7_odds 14 = .ok (.isub, 1) := by decide +kernel
theorem dX7_odds_15 : decode cX7_odds 15 = .ok (.iload 5, 2) := by decide +kernel
theorem dX7_odds_17 : decode cX7_odds 17 = .ok (.iadd, 1) := by decide +kernel
theorem dX7_odds_18 : decode cX7_odds 18 = .ok (.i2l, 1) := by decide +kernel
theorem dX7_odds_19 : decode cX7_odds 19 = .ok (.lmul, 1) := by decide +kernel
theorem dX7_odds_20 : decode cX7_odds 20 = .ok (.iload 5, 2) := by decide +kernel
theorem dX7_odds_22 : decode cX7_odds 22 = .ok (.i2l, 1) := by decide +kernel
theorem dX7_odds_23 : decode cX7_odds 23 = .ok (.invokestatic 291, 3) := by decide +kernel
theorem dX7_odds_26 : decode cX7_odds 26 = .ok (.lstore_n 3, 1) := by decide +kernel
theorem dX7_odds_27 : decode cX7_odds 27 = .ok (.iinc 5 1, 3) := by decide +kernel
theorem dX7_odds_30 : decode cX7_odds 30 = .ok (.goto (-25), 3) := by decide +kernel
theorem dX7_odds_33 : decode cX7_odds 33 = .ok (.lload_n 3, 1) := by decide +kernel
theorem dX7_odds_34 : decode cX7_odds 34 = .ok (.bipush 10, 2) := by decide +kernel
theorem dX7_odds_36 : decode cX7_odds 36 = .ok (.iload_n 2, 1) := by decide +kernel
theorem dX7_odds_37 : decode cX7_odds 37 = .ok (.isub, 1) := by decide +kernel
theorem dX7_odds_38 : decode cX7_odds 38 = .ok (.iload_n 1, 1) := by decide +kernel
theorem dX7_odds_39 : decode cX7_odds 39 = .ok (.invokestatic 224, 3) := by decide +kernel
theorem dX7_odds_42 : decode cX7_odds 42 = .ok (.lmul, 1) := by decide +kernel
theorem dX7_odds_43 : decode cX7_odds 43 = .ok (.iload_n 2, 1) := by decide +kernel
theorem dX7_odds_44 : decode cX7_odds 44 = .ok (.iload_n 0, 1) := by decide +kernel
theorem dX7_odds_45 : decode cX7_odds 45 = .ok (.iload_n 1, 1) := by decide +kernel
theorem dX7_odds_46 : decode cX7_odds 46 = .ok (.isub, 1) := by decide +kernel
theorem dX7_odds_47 : decode cX7_odds 47 = .ok (.invokestatic 224, 3) := by decide +kernel
theorem dX7_odds_50 : decode cX7_odds 50 = .ok (.lmul, 1) := by decide +kernel
theorem dX7_odds_51 : decode cX7_odds 51 = .ok (.lreturn, 1) := by decide +kernel
theorem dX7_partOf_0 : decode cX7_partOf 0 = .ok (.aload_n 0, 1) := by decide +kernel
theorem dX7_partOf_1 : decode cX7_partOf 1 = .ok (.getfield 30, 3) := by decide +kernel
theorem dX7_partOf_4 : decode cX7_partOf 4 = .ok (.aload_n 0, 1) := by decide +kernel
theorem dX7_partOf_5 : decode cX7_partOf 5 = .ok (.getfield 10, 3) := by decide +kernel
theorem dX7_partOf_8 : decode cX7_partOf 8 = .ok (.invokevirtual 118, 3) := by decide +kernel
theorem dX7_partOf_11 : decode cX7_partOf 11 = .ok (.aload_n 0, 1) := by decide +kernel
theorem dX7_partOf_12 : decode cX7_partOf 12 = .ok (.getfield 30, 3) := by decide +kernel
theorem dX7_partOf_15 : decode cX7_partOf 15 = .ok (.aload_n 0, 1) := by decide +kernel
theorem dX7_partOf_16 : decode cX7_partOf 16 = .ok (.getfield 10, 3) := by decide +kernel
theorem dX7_partOf_19 : decode cX7_partOf 19 = .ok (.getfield 115, 3) := by decide +kernel
theorem dX7_partOf_22 : decode cX7_partOf 22 = .ok (.iload_n 1, 1) := by decide +kernel
theorem dX7_partOf_23 : decode cX7_partOf 23 = .ok (.invokevirtual 194, 3) := by decide +kernel
theorem dX7_partOf_26 : decode cX7_partOf 26 = .ok (.aload_n 0, 1) := by decide +kernel
theorem dX7_partOf_27 : decode cX7_partOf 27 = .ok (.getfield 30, 3) := by decide +kernel
theorem dX7_partOf_30 : decode cX7_partOf 30 = .ok (.areturn, 1) := by decide +kernel
theorem dX7_partNow_0 : decode cX7_partNow 0 = .ok (.aload_n 0, 1) := by decide +kernel
theorem dX7_partNow_1 : decode cX7_partNow 1 = .ok (.aload_n 0, 1) := by decide +kernel
theorem dX7_partNow_2 : decode cX7_partNow 2 = .ok (.getfield 10, 3) := by decide +kernel
theorem dX7_partNow_5 : decode cX7_partNow 5 = .ok (.getfield 112, 3) := by decide +kernel
theorem dX7_partNow_8 : decode cX7_partNow 8 = .ok (.invokevirtual 198, 3) := by decide +kernel
theorem dX7_partNow_11 : decode cX7_partNow 11 = .ok (.areturn, 1) := by decide +kernel
theorem dX7_wholePart_0 : decode cX7_wholePart 0 = .ok (.iload_n 2, 1) := by decide +kernel
theorem dX7_wholePart_1 : decode cX7_wholePart 1 = .ok (.i2l, 1) := by decide +kernel
theorem dX7_wholePart_2 : decode cX7_wholePart 2 = .ok (.aload_n 0, 1) := by decide +kernel
theorem dX7_wholePart_3 : decode cX7_wholePart 3 = .ok (.getfield 10, 3) := by decide +kernel
theorem dX7_wholePart_6 : decode cX7_wholePart 6 = .ok (.getfield 146, 3) := by decide +kernel
theorem dX7_wholePart_9 : decode cX7_wholePart 9 = .ok (.iload_n 1, 1) := by decide +kernel
theorem dX7_wholePart_10 : decode cX7_wholePart 10 = .ok (.iaload, 1) := by decide +kernel
theorem dX7_wholePart_11 : decode cX7_wholePart 11 = .ok (.i2l, 1) := by decide +kernel
theorem dX7_wholePart_12 : decode cX7_wholePart 12 = .ok (.lmul, 1) := by decide +kernel
theorem dX7_wholePart_13 : decode cX7_wholePart 13 = .ok (.lstore_n 3, 1) := by decide +kernel
theorem dX7_wholePart_14 : decode cX7_wholePart 14 = .ok (.lload_n 3, 1) := by decide +kernel
theorem dX7_wholePart_15 : decode cX7_wholePart 15 = .ok (.aload_n 0, 1) := by decide +kernel
theorem dX7_wholePart_16 : decode cX7_wholePart 16 = .ok (.getfield 10, 3) := by decide +kernel
theorem dX7_wholePart_19 : decode cX7_wholePart 19 = .ok (.getfield 149, 3) := by decide +kernel
theorem dX7_wholePart_22 : decode cX7_wholePart 22 = .ok (.iload_n 1, 1) := by decide +kernel
theorem dX7_wholePart_23 : decode cX7_wholePart 23 = .ok (.iaload, 1) := by decide +kernel
theorem dX7_wholePart_24 : decode cX7_wholePart 24 = .ok (.i2l, 1) := by decide +kernel
theorem dX7_wholePart_25 : decode cX7_wholePart 25 = .ok (.invokestatic 294, 3) := by decide +kernel
theorem dX7_wholePart_28 : decode cX7_wholePart 28 = .ok (.lconst 0, 1) := by decide +kernel
theorem dX7_wholePart_29 : decode cX7_wholePart 29 = .ok (.lcmp, 1) := by decide +kernel
theorem dX7_wholePart_30 : decode cX7_wholePart 30 = .ok (.ifCond .ne 21, 3) := by decide +kernel
theorem dX7_wholePart_33 : decode cX7_wholePart 33 = .ok (.lload_n 3, 1) := by decide +kernel
theorem dX7_wholePart_34 : decode cX7_wholePart 34 = .ok (.aload_n 0, 1) := by decide +kernel
theorem dX7_wholePart_35 : decode cX7_wholePart 35 = .ok (.getfield 10, 3) := by decide +kernel
theorem dX7_wholePart_38 : decode cX7_wholePart 38 = .ok (.getfield 149, 3) := by decide +kernel
theorem dX7_wholePart_41 : decode cX7_wholePart 41 = .ok (.iload_n 1, 1) := by decide +kernel
theorem dX7_wholePart_42 : decode cX7_wholePart 42 = .ok (.iaload, 1) := by decide +kernel
theorem dX7_wholePart_43 : decode cX7_wholePart 43 = .ok (.i2l, 1) := by decide +kernel
theorem dX7_wholePart_44 : decode cX7_wholePart 44 = .ok (.invokestatic 291, 3) := by decide +kernel
theorem dX7_wholePart_47 : decode cX7_wholePart 47 = .ok (.l2i, 1) := by decide +kernel
theorem dX7_wholePart_48 : decode cX7_wholePart 48 = .ok (.goto 5, 3) := by decide +kernel
theorem dX7_wholePart_51 : decode cX7_wholePart 51 = .ok (.bipush (-4), 2) := by decide +kernel
theorem dX7_wholePart_53 : decode cX7_wholePart 53 = .ok (.ireturn, 1) := by decide +kernel
theorem dX7_sharedWhole_0 : decode cX7_sharedWhole 0 = .ok (.iconst 0, 1) := by decide +kernel
theorem dX7_sharedWhole_1 : decode cX7_sharedWhole 1 = .ok (.istore_n 2, 1) := by decide +kernel
theorem dX7_sharedWhole_2 : decode cX7_sharedWhole 2 = .ok (.iconst 0, 1) := by decide +kernel
theorem dX7_sharedWhole_3 : decode cX7_sharedWhole 3 = .ok (.istore_n 3, 1) := by decide +kernel
theorem dX7_sharedWhole_4 : decode cX7_sharedWhole 4 = .ok (.iload_n 3, 1) := by decide +kernel
theorem dX7_sharedWhole_5 : decode cX7_sharedWhole 5 = .ok (.aload_n 0, 1) := by decide +kernel
theorem dX7_sharedWhole_6 : decode cX7_sharedWhole 6 = .ok (.getfield 10, 3) := by decide +kernel
theorem dX7_sharedWhole_9 : decode cX7_sharedWhole 9 = .ok (.getfield 109, 3) := by decide +kernel
theorem dX7_sharedWhole_12 : decode cX7_sharedWhole 12 = .ok (.if_icmp .ge 30, 3) := by decide +kernel
theorem dX7_sharedWhole_15 : decode cX7_sharedWhole 15 = .ok (.aload_n 0, 1) := by decide +kernel
theorem dX7_sharedWhole_16 : decode cX7_sharedWhole 16 = .ok (.iload_n 3, 1) := by decide +kernel
theorem dX7_sharedWhole_17 : decode cX7_sharedWhole 17 = .ok (.iload_n 1, 1) := by decide +kernel
theorem dX7_sharedWhole_18 : decode cX7_sharedWhole 18 = .ok (.invokevirtual 181, 3) := by decide +kernel
theorem dX7_sharedWhole_21 : decode cX7_sharedWhole 21 = .ok (.istore 4, 2) := by decide +kernel
theorem dX7_sharedWhole_23 : decode cX7_sharedWhole 23 = .ok (.iload 4, 2) := by decide +kernel
theorem dX7_sharedWhole_25 : decode cX7_sharedWhole 25 = .ok (.ifCond .ge 6, 3) := by decide +kernel
theorem dX7_sharedWhole_28 : decode cX7_sharedWhole 28 = .ok (.bipush (-4), 2) := by decide +kernel
theorem dX7_sharedWhole_30 : decode cX7_sharedWhole 30 = .ok (.ireturn, 1) := by decide +kernel
theorem dX7_sharedWhole_31 : decode cX7_sharedWhole 31 = .ok (.iload_n 2, 1) := by decide +kernel
theorem dX7_sharedWhole_32 : decode cX7_sharedWhole 32 = .ok (.iload 4, 2) := by decide +kernel
theorem dX7_sharedWhole_34 : decode cX7_sharedWhole 34 = .ok (.iadd, 1) := by decide +kernel
theorem dX7_sharedWhole_35 : decode cX7_sharedWhole 35 = .ok (.istore_n 2, 1) := by decide +kernel
theorem dX7_sharedWhole_36 : decode cX7_sharedWhole 36 = .ok (.iinc 3 1, 3) := by decide +kernel
theorem dX7_sharedWhole_39 : decode cX7_sharedWhole 39 = .ok (.goto (-35), 3) := by decide +kernel
theorem dX7_sharedWhole_42 : decode cX7_sharedWhole 42 = .ok (.iload_n 2, 1) := by decide +kernel
theorem dX7_sharedWhole_43 : decode cX7_sharedWhole 43 = .ok (.ireturn, 1) := by decide +kernel
theorem dX7_getsWithout_0 : decode cX7_getsWithout 0 = .ok (.aload_n 0, 1) := by decide +kernel
theorem dX7_getsWithout_1 : decode cX7_getsWithout 1 = .ok (.getfield 16, 3) := by decide +kernel
theorem dX7_getsWithout_4 : decode cX7_getsWithout 4 = .ok (.aload_n 0, 1) := by decide +kernel
theorem dX7_getsWithout_5 : decode cX7_getsWithout 5 = .ok (.getfield 10, 3) := by decide +kernel
theorem dX7_getsWithout_8 : decode cX7_getsWithout 8 = .ok (.invokevirtual 102, 3) := by decide +kernel
theorem dX7_getsWithout_11 : decode cX7_getsWithout 11 = .ok (.aload_n 0, 1) := by decide +kernel
theorem dX7_getsWithout_12 : decode cX7_getsWithout 12 = .ok (.getfield 16, 3) := by decide +kernel
theorem dX7_getsWithout_15 : decode cX7_getsWithout 15 = .ok (.iload_n 2, 1) := by decide +kernel
theorem dX7_getsWithout_16 : decode cX7_getsWithout 16 = .ok (.invokevirtual 174, 3) := by decide +kernel
theorem dX7_getsWithout_19 : decode cX7_getsWithout 19 = .ok (.aload_n 0, 1) := by decide +kernel
theorem dX7_getsWithout_20 : decode cX7_getsWithout 20 = .ok (.getfield 30, 3) := by decide +kernel
theorem dX7_getsWithout_23 : decode cX7_getsWithout 23 = .ok (.aload_n 0, 1) := by decide +kernel
theorem dX7_getsWithout_24 : decode cX7_getsWithout 24 = .ok (.getfield 16, 3) := by decide +kernel
theorem dX7_getsWithout_27 : decode cX7_getsWithout 27 = .ok (.invokevirtual 118, 3) := by decide +kernel
theorem dX7_getsWithout_30 : decode cX7_getsWithout 30 = .ok (.aload_n 0, 1) := by decide +kernel
theorem dX7_getsWithout_31 : decode cX7_getsWithout 31 = .ok (.getfield 30, 3) := by decide +kernel
theorem dX7_getsWithout_34 : decode cX7_getsWithout 34 = .ok (.aload_n 0, 1) := by decide +kernel
theorem dX7_getsWithout_35 : decode cX7_getsWithout 35 = .ok (.getfield 10, 3) := by decide +kernel
theorem dX7_getsWithout_38 : decode cX7_getsWithout 38 = .ok (.getfield 115, 3) := by decide +kernel
theorem dX7_getsWithout_41 : decode cX7_getsWithout 41 = .ok (.aload_n 0, 1) := by decide +kernel
theorem dX7_getsWithout_42 : decode cX7_getsWithout 42 = .ok (.getfield 10, 3) := by decide +kernel
theorem dX7_getsWithout_45 : decode cX7_getsWithout 45 = .ok (.getfield 112, 3) := by decide +kernel
theorem dX7_getsWithout_48 : decode cX7_getsWithout 48 = .ok (.invokevirtual 194, 3) := by decide +kernel
theorem dX7_getsWithout_51 : decode cX7_getsWithout 51 = .ok (.aload_n 0, 1) := by decide +kernel
theorem dX7_getsWithout_52 : decode cX7_getsWithout 52 = .ok (.getfield 30, 3) := by decide +kernel
theorem dX7_getsWithout_55 : decode cX7_getsWithout 55 = .ok (.iload_n 2, 1) := by decide +kernel
theorem dX7_getsWithout_56 : decode cX7_getsWithout 56 = .ok (.iload_n 1, 1) := by decide +kernel
theorem dX7_getsWithout_57 : decode cX7_getsWithout 57 = .ok (.if_icmp .ge 9, 3) := by decide +kernel
theorem dX7_getsWithout_60 : decode cX7_getsWithout 60 = .ok (.iload_n 1, 1) := by decide +kernel
theorem dX7_getsWithout_61 : decode cX7_getsWithout 61 = .ok (.iconst 1, 1) := by decide +kernel
theorem dX7_getsWithout_62 : decode cX7_getsWithout 62 = .ok (.isub, 1) := by decide +kernel
theorem dX7_getsWithout_63 : decode cX7_getsWithout 63 = .ok (.goto 4, 3) := by decide +kernel
theorem dX7_getsWithout_66 : decode cX7_getsWithout 66 = .ok (.iload_n 1, 1) := by decide +kernel
theorem dX7_getsWithout_67 : decode cX7_getsWithout 67 = .ok (.invokevirtual 152, 3) := by decide +kernel
theorem dX7_getsWithout_70 : decode cX7_getsWithout 70 = .ok (.ireturn, 1) := by decide +kernel
theorem dX7_findHerds_0 : decode cX7_findHerds 0 = .ok (.aload_n 0, 1) := by decide +kernel
theorem dX7_findHerds_1 : decode cX7_findHerds 1 = .ok (.getfield 54, 3) := by decide +kernel
theorem dX7_findHerds_4 : decode cX7_findHerds 4 = .ok (.invokevirtual 244, 3) := by decide +kernel
theorem dX7_findHerds_7 : decode cX7_findHerds 7 = .ok (.aload_n 0, 1) := by decide +kernel
theorem dX7_findHerds_8 : decode cX7_findHerds 8 = .ok (.iconst 0, 1) := by decide +kernel
theorem dX7_findHerds_9 : decode cX7_findHerds 9 = .ok (.invokevirtual 198, 3) := by decide +kernel
theorem dX7_findHerds_12 : decode cX7_findHerds 12 = .ok (.pop, 1) := by decide +kernel
theorem dX7_findHerds_13 : decode cX7_findHerds 13 = .ok (.iconst 0, 1) := by decide +kernel
theorem dX7_findHerds_14 : decode cX7_findHerds 14 = .ok (.istore_n 1, 1) := by decide +kernel
theorem dX7_findHerds_15 : decode cX7_findHerds 15 = .ok (.iload_n 1, 1) := by decide +kernel
theorem dX7_findHerds_16 : decode cX7_findHerds 16 = .ok (.sipush 200, 3) := by decide +kernel
theorem dX7_findHerds_19 : decode cX7_findHerds 19 = .ok (.if_icmp .gt 38, 3) := by decide +kernel
theorem dX7_findHerds_22 : decode cX7_findHerds 22 = .ok (.aload_n 0, 1) := by decide +kernel
theorem dX7_findHerds_23 : decode cX7_findHerds 23 = .ok (.getfield 30, 3) := by decide +kernel
theorem dX7_findHerds_26 : decode cX7_findHerds 26 = .ok (.aload_n 0, 1) := by decide +kernel
theorem dX7_findHerds_27 : decode cX7_findHerds 27 = .ok (.getfield 10, 3) := by decide +kernel
theorem dX7_findHerds_30 : decode cX7_findHerds 30 = .ok (.invokevirtual 234, 3) := by decide +kernel
theorem dX7_findHerds_33 : decode cX7_findHerds 33 = .ok (.ifCond .eq 11, 3) := by decide +kernel
theorem dX7_findHerds_36 : decode cX7_findHerds 36 = .ok (.aload_n 0, 1) := by decide +kernel
theorem dX7_findHerds_37 : decode cX7_findHerds 37 = .ok (.getfield 54, 3) := by decide +kernel
theorem dX7_findHerds_40 : decode cX7_findHerds 40 = .ok (.iload_n 1, 1) := by decide +kernel
theorem dX7_findHerds_41 : decode cX7_findHerds 41 = .ok (.invokevirtual 247, 3) := by decide +kernel
theorem dX7_findHerds_44 : decode cX7_findHerds 44 = .ok (.aload_n 0, 1) := by decide +kernel
theorem dX7_findHerds_45 : decode cX7_findHerds 45 = .ok (.getfield 30, 3) := by decide +kernel
theorem dX7_findHerds_48 : decode cX7_findHerds 48 = .ok (.invokevirtual 202, 3) := by decide +kernel
theorem dX7_findHerds_51 : decode cX7_findHerds 51 = .ok (.iinc 1 1, 3) := by decide +kernel
theorem dX7_findHerds_54 : decode cX7_findHerds 54 = .ok (.goto (-39), 3) := by decide +kernel
theorem dX7_findHerds_57 : decode cX7_findHerds 57 = .ok (.return_, 1) := by decide +kernel
theorem dX7_leftAtWorst_0 : decode cX7_leftAtWorst 0 = .ok (.iconst 0, 1) := by decide +kernel
theorem dX7_leftAtWorst_1 : decode cX7_leftAtWorst 1 = .ok (.istore_n 2, 1) := by decide +kernel
theorem dX7_leftAtWorst_2 : decode cX7_leftAtWorst 2 = .ok (.iload_n 2, 1) := by decide +kernel
theorem dX7_leftAtWorst_3 : decode cX7_leftAtWorst 3 = .ok (.sipush 200, 3) := by decide +kernel
theorem dX7_leftAtWorst_6 : decode cX7_leftAtWorst 6 = .ok (.if_icmp .gt 16, 3) := by decide +kernel
theorem dX7_leftAtWorst_9 : decode cX7_leftAtWorst 9 = .ok (.aload_n 0, 1) := by decide +kernel
theorem dX7_leftAtWorst_10 : decode cX7_leftAtWorst 10 = .ok (.getfield 58, 3) := by decide +kernel
theorem dX7_leftAtWorst_13 : decode cX7_leftAtWorst 13 = .ok (.iload_n 2, 1) := by decide +kernel
theorem dX7_leftAtWorst_14 : decode cX7_leftAtWorst 14 = .ok (.iconst 0, 1) := by decide +kernel
theorem dX7_leftAtWorst_15 : decode cX7_leftAtWorst 15 = .ok (.iastore, 1) := by decide +kernel
theorem dX7_leftAtWorst_16 : decode cX7_leftAtWorst 16 = .ok (.iinc 2 1, 3) := by decide +kernel
theorem dX7_leftAtWorst_19 : decode cX7_leftAtWorst 19 = .ok (.goto (-17), 3) := by decide +kernel
theorem dX7_leftAtWorst_22 : decode cX7_leftAtWorst 22 = .ok (.iconst 0, 1) := by decide +kernel
theorem dX7_leftAtWorst_23 : decode cX7_leftAtWorst 23 = .ok (.istore_n 2, 1) := by decide +kernel
theorem dX7_leftAtWorst_24 : decode cX7_leftAtWorst 24 = .ok (.aload_n 0, 1) := by decide +kernel
theorem dX7_leftAtWorst_25 : decode cX7_leftAtWorst 25 = .ok (.iconst 0, 1) := by decide +kernel
theorem dX7_leftAtWorst_26 : decode cX7_leftAtWorst 26 = .ok (.invokevirtual 198, 3) := by decide +kernel
theorem dX7_leftAtWorst_29 : decode cX7_leftAtWorst 29 = .ok (.pop, 1) := by decide +kernel
theorem dX7_leftAtWorst_30 : decode cX7_leftAtWorst 30 = .ok (.iconst 0, 1) := by decide +kernel
theorem dX7_leftAtWorst_31 : decode cX7_leftAtWorst 31 = .ok (.istore_n 3, 1) := by decide +kernel
theorem dX7_leftAtWorst_32 : decode cX7_leftAtWorst 32 = .ok (.iload_n 3, 1) := by decide +kernel
theorem dX7_leftAtWorst_33 : decode cX7_leftAtWorst 33 = .ok (.sipush 200, 3) := by decide +kernel
theorem dX7_leftAtWorst_36 : decode cX7_leftAtWorst 36 = .ok (.if_icmp .gt 75, 3) := by decide +kernel
theorem dX7_leftAtWorst_39 : decode cX7_leftAtWorst 39 = .ok (.aload_n 0, 1) := by decide +kernel
theorem dX7_leftAtWorst_40 : decode cX7_leftAtWorst 40 = .ok (.getfield 30, 3) := by decide +kernel
theorem dX7_leftAtWorst_43 : decode cX7_leftAtWorst 43 = .ok (.iload_n 1, 1) := by decide +kernel
theorem dX7_leftAtWorst_44 : decode cX7_leftAtWorst 44 = .ok (.invokevirtual 152, 3) := by decide +kernel
theorem dX7_leftAtWorst_47 : decode cX7_leftAtWorst 47 = .ok (.istore 4, 2) := by decide +kernel
theorem dX7_leftAtWorst_49 : decode cX7_leftAtWorst 49 = .ok (.iload 4, 2) := by decide +kernel
theorem dX7_leftAtWorst_51 : decode cX7_leftAtWorst 51 = .ok (.iconst 0, 1) := by decide +kernel
theorem dX7_leftAtWorst_52 : decode cX7_leftAtWorst 52 = .ok (.sipush 200, 3) := by decide +kernel
theorem dX7_leftAtWorst_55 : decode cX7_leftAtWorst 55 = .ok (.invokestatic 73, 3) := by decide +kernel
theorem dX7_leftAtWorst_58 : decode cX7_leftAtWorst 58 = .ok (.ifCond .eq 40, 3) := by decide +kernel
theorem dX7_leftAtWorst_61 : decode cX7_leftAtWorst 61 = .ok (.aload_n 0, 1) := by decide +kernel
theorem dX7_leftAtWorst_62 : decode cX7_leftAtWorst 62 = .ok (.getfield 30, 3) := by decide +kernel
theorem dX7_leftAtWorst_65 : decode cX7_leftAtWorst 65 = .ok (.aload_n 0, 1) := by decide +kernel
theorem dX7_leftAtWorst_66 : decode cX7_leftAtWorst 66 = .ok (.getfield 10, 3) := by decide +kernel
theorem dX7_leftAtWorst_69 : decode cX7_leftAtWorst 69 = .ok (.invokevirtual 234, 3) := by decide +kernel
theorem dX7_leftAtWorst_72 : decode cX7_leftAtWorst 72 = .ok (.ifCond .eq 26, 3) := by decide +kernel
theorem dX7_leftAtWorst_75 : decode cX7_leftAtWorst 75 = .ok (.aload_n 0, 1) := by decide +kernel
theorem dX7_leftAtWorst_76 : decode cX7_leftAtWorst 76 = .ok (.getfield 58, 3) := by decide +kernel
theorem dX7_leftAtWorst_79 : decode cX7_leftAtWorst 79 = .ok (.iload 4, 2) := by decide +kernel
theorem dX7_leftAtWorst_81 : decode cX7_leftAtWorst 81 = .ok (.dup2, 1) := by decide +kernel
theorem dX7_leftAtWorst_82 : decode cX7_leftAtWorst 82 = .ok (.iaload, 1) := by decide +kernel
theorem dX7_leftAtWorst_83 : decode cX7_leftAtWorst 83 = .ok (.iconst 1, 1) := by decide +kernel
theorem dX7_leftAtWorst_84 : decode cX7_leftAtWorst 84 = .ok (.iadd, 1) := by decide +kernel
theorem dX7_leftAtWorst_85 : decode cX7_leftAtWorst 85 = .ok (.iastore, 1) := by decide +kernel
theorem dX7_leftAtWorst_86 : decode cX7_leftAtWorst 86 = .ok (.iload_n 2, 1) := by decide +kernel
theorem dX7_leftAtWorst_87 : decode cX7_leftAtWorst 87 = .ok (.aload_n 0, 1) := by decide +kernel
theorem dX7_leftAtWorst_88 : decode cX7_leftAtWorst 88 = .ok (.getfield 58, 3) := by decide +kernel
theorem dX7_leftAtWorst_91 : decode cX7_leftAtWorst 91 = .ok (.iload 4, 2) := by decide +kernel
theorem dX7_leftAtWorst_93 : decode cX7_leftAtWorst 93 = .ok (.iaload, 1) := by decide +kernel
theorem dX7_leftAtWorst_94 : decode cX7_leftAtWorst 94 = .ok (.invokestatic 297, 3) := by decide +kernel
theorem dX7_leftAtWorst_97 : decode cX7_leftAtWorst 97 = .ok (.istore_n 2, 1) := by decide +kernel
theorem dX7_leftAtWorst_98 : decode cX7_leftAtWorst 98 = .ok (.aload_n 0, 1) := by decide +kernel
theorem dX7_leftAtWorst_99 : decode cX7_leftAtWorst 99 = .ok (.getfield 30, 3) := by decide +kernel
theorem dX7_leftAtWorst_102 : decode cX7_leftAtWorst 102 = .ok (.invokevirtual 202, 3) := by decide +kernel
theorem dX7_leftAtWorst_105 : decode cX7_leftAtWorst 105 = .ok (.iinc 3 1, 3) := by decide +kernel
theorem dX7_leftAtWorst_108 : decode cX7_leftAtWorst 108 = .ok (.goto (-76), 3) := by decide +kernel
theorem dX7_leftAtWorst_111 : decode cX7_leftAtWorst 111 = .ok (.iload_n 2, 1) := by decide +kernel
theorem dX7_leftAtWorst_112 : decode cX7_leftAtWorst 112 = .ok (.ireturn, 1) := by decide +kernel
