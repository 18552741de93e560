theorem dX10_thrown_0 : decode cX10_thrown 0 = .ok (.aload_n 0, 1) := by decide +kernel
theorem dX10_thrown_1 : decode cX10_thrown 1 = .ok (.getfield 1, 3) := by decide +kernel
theorem dX10_thrown_4 : decode cX10_thrown 4 = .ok (.ireturn, 1) := by decide +kernel
theorem dX10_isIn_0 : decode cX10_isIn 0 = .ok (.iload_n 0, 1) := by decide +kernel
theorem dX10_isIn_1 : decode cX10_isIn 1 = .ok (.iload_n 1, 1) := by decide +kernel
theorem dX10_isIn_2 : decode cX10_isIn 2 = .ok (.if_icmp .lt 12, 3) := by decide +kernel
theorem dX10_isIn_5 : decode cX10_isIn 5 = .ok (.iload_n 0, 1) := by decide +kernel
theorem dX10_isIn_6 : decode cX10_isIn 6 = .ok (.iload_n 2, 1) := by decide +kernel
theorem dX10_isIn_7 : decode cX10_isIn 7 = .ok (.if_icmp .gt 7, 3) := by decide +kernel
theorem dX10_isIn_10 : decode cX10_isIn 10 = .ok (.iconst 1, 1) := by decide +kernel
theorem dX10_isIn_11 : decode cX10_isIn 11 = .ok (.goto 4, 3) := by decide +kernel
theorem dX10_isIn_14 : decode cX10_isIn 14 = .ok (.iconst 0, 1) := by decide +kernel
theorem dX10_isIn_15 : decode cX10_isIn 15 = .ok (.ireturn, 1) := by decide +kernel
theorem dX10_has_0 : decode cX10_has 0 = .ok (.iload_n 0, 1) := by decide +kernel
theorem dX10_has_1 : decode cX10_has 1 = .ok (.iload_n 1, 1) := by decide +kernel
theorem dX10_has_2 : decode cX10_has 2 = .ok (.ishr, 1) := by decide +kernel
theorem dX10_has_3 : decode cX10_has 3 = .ok (.iconst 1, 1) := by decide +kernel
theorem dX10_has_4 : decode cX10_has 4 = .ok (.iand, 1) := by decide +kernel
theorem dX10_has_5 : decode cX10_has 5 = .ok (.iconst 1, 1) := by decide +kernel
theorem dX10_has_6 : decode cX10_has 6 = .ok (.if_icmp .ne 7, 3) := by decide +kernel
theorem dX10_has_9 : decode cX10_has 9 = .ok (.iconst 1, 1) := by decide +kernel
theorem dX10_has_10 : decode cX10_has 10 = .ok (.goto 4, 3) := by decide +kernel
theorem dX10_has_13 : decode cX10_has 13 = .ok (.iconst 0, 1) := by decide +kernel
theorem dX10_has_14 : decode cX10_has 14 = .ok (.ireturn, 1) := by decide +kernel
theorem dX10_ones_0 : decode cX10_ones 0 = .ok (.iload_n 0, 1) := by decide +kernel
theorem dX10_ones_1 : decode cX10_ones 1 = .ok (.invokestatic 7, 3) := by decide +kernel
theorem dX10_ones_4 : decode cX10_ones 4 = .ok (.ireturn, 1) := by decide +kernel
theorem dX10_fails_0 : decode cX10_fails 0 = .ok (.aload_n 0, 1) := by decide +kernel
theorem dX10_fails_1 : decode cX10_fails 1 = .ok (.iload_n 1, 1) := by decide +kernel
theorem dX10_fails_2 : decode cX10_fails 2 = .ok (.ifCond .eq 7, 3) := by decide +kernel
theorem dX10_fails_5 : decode cX10_fails 5 = .ok (.iconst 1, 1) := by decide +kernel
theorem dX10_fails_6 : decode cX10_fails 6 = .ok (.goto 12, 3) := by decide +kernel
theorem dX10_fails_9 : decode cX10_fails 9 = .ok (.iload_n 2, 1) := by decide +kernel
theorem dX10_fails_10 : decode cX10_fails 10 = .ok (.ifCond .eq 7, 3) := by decide +kernel
theorem dX10_fails_13 : decode cX10_fails 13 = .ok (.iconst 2, 1) := by decide +kernel
theorem dX10_fails_14 : decode cX10_fails 14 = .ok (.goto 4, 3) := by decide +kernel
theorem dX10_fails_17 : decode cX10_fails 17 = .ok (.iconst 0, 1) := by decide +kernel
theorem dX10_fails_18 : decode cX10_fails 18 = .ok (.putfield 1, 3) := by decide +kernel
theorem dX10_fails_21 : decode cX10_fails 21 = .ok (.aload_n 0, 1) := by decide +kernel
theorem dX10_fails_22 : decode cX10_fails 22 = .ok (.getfield 1, 3) := by decide +kernel
theorem dX10_fails_25 : decode cX10_fails 25 = .ok (.ifCond .le 7, 3) := by decide +kernel
theorem dX10_fails_28 : decode cX10_fails 28 = .ok (.iconst 1, 1) := by decide +kernel
theorem dX10_fails_29 : decode cX10_fails 29 = .ok (.goto 4, 3) := by decide +kernel
theorem dX10_fails_32 : decode cX10_fails 32 = .ok (.iconst 0, 1) := by decide +kernel
theorem dX10_fails_33 : decode cX10_fails 33 = .ok (.ireturn, 1) := by decide +kernel
theorem dX10_init_0 : decode cX10_init 0 = .ok (.aload_n 0, 1) := by decide +kernel
theorem dX10_init_1 : decode cX10_init 1 = .ok (.invokespecial 13, 3) := by decide +kernel
theorem dX10_init_4 : decode cX10_init 4 = .ok (.aload_n 0, 1) := by decide +kernel
theorem dX10_init_5 : decode cX10_init 5 = .ok (.bipush 20, 2) := by decide +kernel
theorem dX10_init_7 : decode cX10_init 7 = .ok (.newarray .int, 2) := by decide +kernel
theorem dX10_init_9 : decode cX10_init 9 = .ok (.putfield 19, 3) := by decide +kernel
theorem dX10_init_12 : decode cX10_init 12 = .ok (.aload_n 0, 1) := by decide +kernel
theorem dX10_init_13 : decode cX10_init 13 = .ok (.bipush 20, 2) := by decide +kernel
theorem dX10_init_15 : decode cX10_init 15 = .ok (.newarray .int, 2) := by decide +kernel
theorem dX10_init_17 : decode cX10_init 17 = .ok (.putfield 23, 3) := by decide +kernel
theorem dX10_init_20 : decode cX10_init 20 = .ok (.aload_n 0, 1) := by decide +kernel
theorem dX10_init_21 : decode cX10_init 21 = .ok (.sipush 160, 3) := by decide +kernel
theorem dX10_init_24 : decode cX10_init 24 = .ok (.newarray .int, 2) := by decide +kernel
theorem dX10_init_26 : decode cX10_init 26 = .ok (.putfield 26, 3) := by decide +kernel
theorem dX10_init_29 : decode cX10_init 29 = .ok (.aload_n 0, 1) := by decide +kernel
theorem dX10_init_30 : decode cX10_init 30 = .ok (.bipush 60, 2) := by decide +kernel
theorem dX10_init_32 : decode cX10_init 32 = .ok (.newarray .int, 2) := by decide +kernel
theorem dX10_init_34 : decode cX10_init 34 = .ok (.putfield 29, 3) := by decide +kernel
theorem dX10_init_37 : decode cX10_init 37 = .ok (.aload_n 0, 1) := by decide +kernel
theorem dX10_init_38 : decode cX10_init 38 = .ok (.bipush 10, 2) := by decide +kernel
theorem dX10_init_40 : decode cX10_init 40 = .ok (.newarray .int, 2) := by decide +kernel
theorem dX10_init_42 : decode cX10_init 42 = .ok (.putfield 32, 3) := by decide +kernel
theorem dX10_init_45 : decode cX10_init 45 = .ok (.aload_n 0, 1) := by decide +kernel
theorem dX10_init_46 : decode cX10_init 46 = .ok (.iconst 1, 1) := by decide +kernel
theorem dX10_init_47 : decode cX10_init 47 = .ok (.putfield 35, 3) := by decide +kernel
theorem dX10_init_50 : decode cX10_init 50 = .ok (.aload_n 0, 1) := by decide +kernel
theorem dX10_init_51 : decode cX10_init 51 = .ok (.bipush 121, 2) := by decide +kernel
theorem dX10_init_53 : decode cX10_init 53 = .ok (.newarray .int, 2) := by decide +kernel
theorem dX10_init_55 : decode cX10_init 55 = .ok (.putfield 38, 3) := by decide +kernel
theorem dX10_init_58 : decode cX10_init 58 = .ok (.aload_n 0, 1) := by decide +kernel
theorem dX10_init_59 : decode cX10_init 59 = .ok (.sipush 400, 3) := by decide +kernel
theorem dX10_init_62 : decode cX10_init 62 = .ok (.newarray .int, 2) := by decide +kernel
theorem dX10_init_64 : decode cX10_init 64 = .ok (.putfield 41, 3) := by decide +kernel
theorem dX10_init_67 : decode cX10_init 67 = .ok (.aload_n 0, 1) := by decide +kernel
theorem dX10_init_68 : decode cX10_init 68 = .ok (.bipush 10, 2) := by decide +kernel
theorem dX10_init_70 : decode cX10_init 70 = .ok (.newarray .int, 2) := by decide +kernel
theorem dX10_init_72 : decode cX10_init 72 = .ok (.putfield 44, 3) := by decide +kernel
theorem dX10_init_75 : decode cX10_init 75 = .ok (.aload_n 0, 1) := by decide +kernel
theorem dX10_init_76 : decode cX10_init 76 = .ok (.sipush 400, 3) := by decide +kernel
theorem dX10_init_79 : decode cX10_init 79 = .ok (.newarray .int, 2) := by decide +kernel
theorem dX10_init_81 : decode cX10_init 81 = .ok (.putfield 47, 3) := by decide +kernel
theorem dX10_init_84 : decode cX10_init 84 = .ok (.aload_n 0, 1) := by decide +kernel
theorem dX10_init_85 : decode cX10_init 85 = .ok (.bipush 11, 2) := by decide +kernel
theorem dX10_init_87 : decode cX10_init 87 = .ok (.newarray .int, 2) := by decide +kernel
theorem dX10_init_89 : decode cX10_init 89 = .ok (.putfield 50, 3) := by decide +kernel
theorem dX10_init_92 : decode cX10_init 92 = .ok (.aload_n 0, 1) := by decide +kernel
theorem dX10_init_93 : decode cX10_init 93 = .ok (.bipush 40, 2) := by decide +kernel
theorem dX10_init_95 : decode cX10_init 95 = .ok (.newarray .int, 2) := by decide +kernel
theorem dX10_init_97 : decode cX10_init 97 = .ok (.putfield 53, 3) := by decide +kernel
theorem dX10_init_100 : decode cX10_init 100 = .ok (.aload_n 0, 1) := by decide +kernel
theorem dX10_init_101 : decode cX10_init 101 = .ok (.getfield 19, 3) := by decide +kernel
theorem dX10_init_104 : decode cX10_init 104 = .ok (.bipush 10, 2) := by decide +kernel
theorem dX10_init_106 : decode cX10_init 106 = .ok (.iconst 1, 1) := by decide +kernel
theorem dX10_init_107 : decode cX10_init 107 = .ok (.iastore, 1) := by decide +kernel
theorem dX10_init_108 : decode cX10_init 108 = .ok (.return_, 1) := by decide +kernel
theorem dX10_many_0 : decode cX10_many 0 = .ok (.aload_n 0, 1) := by decide +kernel
theorem dX10_many_1 : decode cX10_many 1 = .ok (.getfield 56, 3) := by decide +kernel
theorem dX10_many_4 : decode cX10_many 4 = .ok (.ifCond .eq 10, 3) := by decide +kernel
theorem dX10_many_7 : decode cX10_many 7 = .ok (.aload_n 0, 1) := by decide +kernel
theorem dX10_many_8 : decode cX10_many 8 = .ok (.getfield 60, 3) := by decide +kernel
theorem dX10_many_11 : decode cX10_many 11 = .ok (.goto 7, 3) := by decide +kernel
theorem dX10_many_14 : decode cX10_many 14 = .ok (.aload_n 0, 1) := by decide +kernel
theorem dX10_many_15 : decode cX10_many 15 = .ok (.getfield 35, 3) := by decide +kernel
theorem dX10_many_18 : decode cX10_many 18 = .ok (.ireturn, 1) := by decide +kernel
theorem dX10_at_0 : decode cX10_at 0 = .ok (.aload_n 0, 1) := by decide +kernel
theorem dX10_at_1 : decode cX10_at 1 = .ok (.getfield 56, 3) := by decide +kernel
theorem dX10_at_4 : decode cX10_at 4 = .ok (.ifCond .eq 12, 3) := by decide +kernel
theorem dX10_at_7 : decode cX10_at 7 = .ok (.aload_n 0, 1) := by decide +kernel
theorem dX10_at_8 : decode cX10_at 8 = .ok (.getfield 23, 3) := by decide +kernel
theorem dX10_at_11 : decode cX10_at 11 = .ok (.iload_n 1, 1) := by decide +kernel
theorem dX10_at_12 : decode cX10_at 12 = .ok (.iaload, 1) := by decide +kernel
theorem dX10_at_13 : decode cX10_at 13 = .ok (.goto 9, 3) := by decide +kernel
theorem dX10_at_16 : decode cX10_at 16 = .ok (.aload_n 0, 1) := by decide +kernel
theorem dX10_at_17 : decode cX10_at 17 = .ok (.getfield 19, 3) := by decide +kernel
theorem dX10_at_20 : decode cX10_at 20 = .ok (.iload_n 1, 1) := by decide +kernel
theorem dX10_at_21 : decode cX10_at 21 = .ok (.iaload, 1) := by decide +kernel
theorem dX10_at_22 : decode cX10_at 22 = .ok (.ireturn, 1) := by decide +kernel
theorem dX10_remembers_0 : decode cX10_remembers 0 = .ok (.aload_n 0, 1) := by decide +kernel
theorem dX10_remembers_1 : decode cX10_remembers 1 = .ok (.getfield 63, 3) := by decide +kernel
theorem dX10_remembers_4 : decode cX10_remembers 4 = .ok (.bipush 8, 2) := by decide +kernel
theorem dX10_remembers_6 : decode cX10_remembers 6 = .ok (.if_icmp .ne 44, 3) := by decide +kernel
theorem dX10_remembers_9 : decode cX10_remembers 9 = .ok (.bipush 20, 2) := by decide +kernel
theorem dX10_remembers_11 : decode cX10_remembers 11 = .ok (.istore_n 1, 1) := by decide +kernel
theorem dX10_remembers_12 : decode cX10_remembers 12 = .ok (.iload_n 1, 1) := by decide +kernel
theorem dX10_remembers_13 : decode cX10_remembers 13 = .ok (.sipush 160, 3) := by decide +kernel
theorem dX10_remembers_16 : decode cX10_remembers 16 = .ok (.if_icmp .ge 24, 3) := by decide +kernel
theorem dX10_remembers_19 : decode cX10_remembers 19 = .ok (.aload_n 0, 1) := by decide +kernel
theorem dX10_remembers_20 : decode cX10_remembers 20 = .ok (.getfield 26, 3) := by decide +kernel
theorem dX10_remembers_23 : decode cX10_remembers 23 = .ok (.iload_n 1, 1) := by decide +kernel
theorem dX10_remembers_24 : decode cX10_remembers 24 = .ok (.bipush 20, 2) := by decide +kernel
theorem dX10_remembers_26 : decode cX10_remembers 26 = .ok (.isub, 1) := by decide +kernel
theorem dX10_remembers_27 : decode cX10_remembers 27 = .ok (.aload_n 0, 1) := by decide +kernel
theorem dX10_remembers_28 : decode cX10_remembers 28 = .ok (.getfield 26, 3) := by decide +kernel
theorem dX10_remembers_31 : decode cX10_remembers 31 = .ok (.iload_n 1, 1) := by decide +kernel
theorem dX10_remembers_32 : decode cX10_remembers 32 = .ok (.iaload, 1) := by decide +kernel
theorem dX10_remembers_33 : decode cX10_remembers 33 = .ok (.iastore, 1) := by decide +kernel
theorem dX10_remembers_34 : decode cX10_remembers 34 = .ok (.iinc 1 1, 3) := by decide +kernel
theorem dX10_remembers_37 : decode cX10_remembers 37 = .ok (.goto (-25), 3) := by decide +kernel
theorem dX10_remembers_40 : decode cX10_remembers 40 = .ok (.aload_n 0, 1) := by decide +kernel
theorem dX10_remembers_41 : decode cX10_remembers 41 = .ok (.dup, 1) := by decide +kernel
theorem dX10_remembers_42 : decode cX10_remembers 42 = .ok (.getfield 63, 3) := by decide +kernel
theorem dX10_remembers_45 : decode cX10_remembers 45 = .ok (.iconst 1, 1) := by decide +kernel
theorem dX10_remembers_46 : decode cX10_remembers 46 = .ok (.isub, 1) := by decide +kernel
theorem dX10_remembers_47 : decode cX10_remembers 47 = .ok (.putfield 63, 3) := by decide +kernel
theorem dX10_remembers_50 : decode cX10_remembers 50 = .ok (.iconst 0, 1) := by decide +kernel
theorem dX10_remembers_51 : decode cX10_remembers 51 = .ok (.istore_n 1, 1) := by decide +kernel
theorem dX10_remembers_52 : decode cX10_remembers 52 = .ok (.iload_n 1, 1) := by decide +kernel
theorem dX10_remembers_53 : decode cX10_remembers 53 = .ok (.bipush 20, 2) := by decide +kernel
theorem dX10_remembers_55 : decode cX10_remembers 55 = .ok (.if_icmp .ge 29, 3) := by decide +kernel
theorem dX10_remembers_58 : decode cX10_remembers 58 = .ok (.aload_n 0, 1) := by decide +kernel
theorem dX10_remembers_59 : decode cX10_remembers 59 = .ok (.getfield 26, 3) := by decide +kernel
theorem dX10_remembers_62 : decode cX10_remembers 62 = .ok (.bipush 20, 2) := by decide +kernel
theorem dX10_remembers_64 : decode cX10_remembers 64 = .ok (.aload_n 0, 1) := by decide +kernel
theorem dX10_remembers_65 : decode cX10_remembers 65 = .ok (.getfield 63, 3) := by decide +kernel
theorem dX10_remembers_68 : decode cX10_remembers 68 = .ok (.imul, 1) := by decide +kernel
theorem dX10_remembers_69 : decode cX10_remembers 69 = .ok (.iload_n 1, 1) := by decide +kernel
theorem dX10_remembers_70 : decode cX10_remembers 70 = .ok (.iadd, 1) := by decide +kernel
theorem dX10_remembers_71 : decode cX10_remembers 71 = .ok (.aload_n 0, 1) := by decide +kernel
theorem dX10_remembers_72 : decode cX10_remembers 72 = .ok (.getfield 19, 3) := by decide +kernel
theorem dX10_remembers_75 : decode cX10_remembers 75 = .ok (.iload_n 1, 1) := by decide +kernel
theorem dX10_remembers_76 : decode cX10_remembers 76 = .ok (.iaload, 1) := by decide +kernel
theorem dX10_remembers_77 : decode cX10_remembers 77 = .ok (.iastore, 1) := by decide +kernel
theorem dX10_remembers_78 : decode cX10_remembers 78 = .ok (.iinc 1 1, 3) := by decide +kernel
theorem dX10_remembers_81 : decode cX10_remembers 81 = .ok (.goto (-29), 3) := by decide +kernel
theorem dX10_remembers_84 : decode cX10_remembers 84 = .ok (.aload_n 0, 1) := by decide +kernel
theorem dX10_remembers_85 : decode cX10_remembers 85 = .ok (.dup, 1) := by decide +kernel
theorem dX10_remembers_86 : decode cX10_remembers 86 = .ok (.getfield 63, 3) := by decide +kernel
theorem dX10_remembers_89 : decode cX10_remembers 89 = .ok (.iconst 1, 1) := by decide +kernel
theorem dX10_remembers_90 : decode cX10_remembers 90 = .ok (.iadd, 1) := by decide +kernel
theorem dX10_remembers_91 : decode cX10_remembers 91 = .ok (.putfield 63, 3) := by decide +kernel
theorem dX10_remembers_94 : decode cX10_remembers 94 = .ok (.return_, 1) := by decide +kernel
theorem dX10_undo_0 : decode cX10_undo 0 = .ok (.aload_n 0, 1) := by decide +kernel
theorem dX10_undo_1 : decode cX10_undo 1 = .ok (.iconst 0, 1) := by decide +kernel
theorem dX10_undo_2 : decode cX10_undo 2 = .ok (.putfield 1, 3) := by decide +kernel
theorem dX10_undo_5 : decode cX10_undo 5 = .ok (.aload_n 0, 1) := by decide +kernel
theorem dX10_undo_6 : decode cX10_undo 6 = .ok (.getfield 63, 3) := by decide +kernel
theorem dX10_undo_9 : decode cX10_undo 9 = .ok (.ifCond .ne 5, 3) := by decide +kernel
theorem dX10_undo_12 : decode cX10_undo 12 = .ok (.iconst (-1), 1) := by decide +kernel
theorem dX10_undo_13 : decode cX10_undo 13 = .ok (.ireturn, 1) := by decide +kernel
theorem dX10_undo_14 : decode cX10_undo 14 = .ok (.aload_n 0, 1) := by decide +kernel
theorem dX10_undo_15 : decode cX10_undo 15 = .ok (.dup, 1) := by decide +kernel
theorem dX10_undo_16 : decode cX10_undo 16 = .ok (.getfield 63, 3) := by decide +kernel
theorem dX10_undo_19 : decode cX10_undo 19 = .ok (.iconst 1, 1) := by decide +kernel
theorem dX10_undo_20 : decode cX10_undo 20 = .ok (.isub, 1) := by decide +kernel
theorem dX10_undo_21 : decode cX10_undo 21 = .ok (.putfield 63, 3) := by decide +kernel
theorem dX10_undo_24 : decode cX10_undo 24 = .ok (.iconst 0, 1) := by decide +kernel
theorem dX10_undo_25 : decode cX10_undo 25 = .ok (.istore_n 1, 1) := by decide +kernel
theorem dX10_undo_26 : decode cX10_undo 26 = .ok (.iload_n 1, 1) := by decide +kernel
theorem dX10_undo_27 : decode cX10_undo 27 = .ok (.bipush 20, 2) := by decide +kernel
theorem dX10_undo_29 : decode cX10_undo 29 = .ok (.if_icmp .ge 29, 3) := by decide +kernel
theorem dX10_undo_32 : decode cX10_undo 32 = .ok (.aload_n 0, 1) := by decide +kernel
theorem dX10_undo_33 : decode cX10_undo 33 = .ok (.getfield 19, 3) := by decide +kernel
theorem dX10_undo_36 : decode cX10_undo 36 = .ok (.iload_n 1, 1) := by decide +kernel
theorem dX10_undo_37 : decode cX10_undo 37 = .ok (.aload_n 0, 1) := by decide +kernel
theorem dX10_undo_38 : decode cX10_undo 38 = .ok (.getfield 26, 3) := by decide +kernel
theorem dX10_undo_41 : decode cX10_undo 41 = .ok (.bipush 20, 2) := by decide +kernel
theorem dX10_undo_43 : decode cX10_undo 43 = .ok (.aload_n 0, 1) := by decide +kernel
theorem dX10_undo_44 : decode cX10_undo 44 = .ok (.getfield 63, 3) := by decide +kernel
theorem dX10_undo_47 : decode cX10_undo 47 = .ok (.imul, 1) := by decide +kernel
theorem dX10_undo_48 : decode cX10_undo 48 = .ok (.iload_n 1, 1) := by decide +kernel
theorem dX10_undo_49 : decode cX10_undo 49 = .ok (.iadd, 1) := by decide +kernel
theorem dX10_undo_50 : decode cX10_undo 50 = .ok (.iaload, 1) := by decide +kernel
theorem dX10_undo_51 : decode cX10_undo 51 = .ok (.iastore, 1) := by decide +kernel
theorem dX10_undo_52 : decode cX10_undo 52 = .ok (.iinc 1 1, 3) := by decide +kernel
theorem dX10_undo_55 : decode cX10_undo 55 = .ok (.goto (-29), 3) := by decide +kernel
theorem dX10_undo_58 : decode cX10_undo 58 = .ok (.aload_n 0, 1) := by decide +kernel
theorem dX10_undo_59 : decode cX10_undo 59 = .ok (.getfield 63, 3) := by decide +kernel
theorem dX10_undo_62 : decode cX10_undo 62 = .ok (.ireturn, 1) := by decide +kernel
theorem dX10_joins_0 : decode cX10_joins 0 = .ok (.aload_n 0, 1) := by decide +kernel
theorem dX10_joins_1 : decode cX10_joins 1 = .ok (.iload_n 1, 1) := by decide +kernel
theorem dX10_joins_2 : decode cX10_joins 2 = .ok (.dup2, 1) := by decide +kernel
theorem dX10_joins_3 : decode cX10_joins 3 = .ok (.iaload, 1) := by decide +kernel
theorem dX10_joins_4 : decode cX10_joins 4 = .ok (.iconst 1, 1) := by decide +kernel
theorem dX10_joins_5 : decode cX10_joins 5 = .ok (.iload_n 2, 1) := by decide +kernel
theorem dX10_joins_6 : decode cX10_joins 6 = .ok (.ishl, 1) := by decide +kernel
theorem dX10_joins_7 : decode cX10_joins 7 = .ok (.ior, 1) := by decide +kernel
theorem dX10_joins_8 : decode cX10_joins 8 = .ok (.iastore, 1) := by decide +kernel
theorem dX10_joins_9 : decode cX10_joins 9 = .ok (.aload_n 0, 1) := by decide +kernel
theorem dX10_joins_10 : decode cX10_joins 10 = .ok (.iload_n 2, 1) := by decide +kernel
theorem dX10_joins_11 : decode cX10_joins 11 = .ok (.dup2, 1) := by decide +kernel
theorem dX10_joins_12 : decode cX10_joins 12 = .ok (.iaload, 1) := by decide +kernel
theorem dX10_joins_13 : decode cX10_joins 13 = .ok (.iconst 1, 1) := by decide +kernel
theorem dX10_joins_14 : decode cX10_joins 14 = .ok (.iload_n 1, 1) := by decide +kernel
theorem dX10_joins_15 : decode cX10_joins 15 = .ok (.ishl, 1) := by decide +kernel
theorem dX10_joins_16 : decode cX10_joins 16 = .ok (.ior, 1) := by decide +kernel
theorem dX10_joins_17 : decode cX10_joins 17 = .ok (.iastore, 1) := by decide +kernel
theorem dX10_joins_18 : decode cX10_joins 18 = .ok (.return_, 1) := by decide +kernel
theorem dX10_parts_0 : decode cX10_parts 0 = .ok (.aload_n 0, 1) := by decide +kernel
theorem dX10_parts_1 : decode cX10_parts 1 = .ok (.iload_n 1, 1) := by decide +kernel
theorem dX10_parts_2 : decode cX10_parts 2 = .ok (.dup2, 1) := by decide +kernel
theorem dX10_parts_3 : decode cX10_parts 3 = .ok (.iaload, 1) := by decide +kernel
theorem dX10_parts_4 : decode cX10_parts 4 = .ok (.iconst 1, 1) := by decide +kernel
theorem dX10_parts_5 : decode cX10_parts 5 = .ok (.iload_n 2, 1) := by decide +kernel
theorem dX10_parts_6 : decode cX10_parts 6 = .ok (.ishl, 1) := by decide +kernel
theorem dX10_parts_7 : decode cX10_parts 7 = .ok (.iconst (-1), 1) := by decide +kernel
theorem dX10_parts_8 : decode cX10_parts 8 = .ok (.ixor, 1) := by decide +kernel
theorem dX10_parts_9 : decode cX10_parts 9 = .ok (.iand, 1) := by decide +kernel
theorem dX10_parts_10 : decode cX10_parts 10 = .ok (.iastore, 1) := by decide +kernel
theorem dX10_parts_11 : decode cX10_parts 11 = .ok (.aload_n 0, 1) := by decide +kernel
theorem dX10_parts_12 : decode cX10_parts 12 = .ok (.iload_n 2, 1) := by decide +kernel
theorem dX10_parts_13 : decode cX10_parts 13 = .ok (.dup2, 1) := by decide +kernel
theorem dX10_parts_14 : decode cX10_parts 14 = .ok (.iaload, 1) := by decide +kernel
theorem dX10_parts_15 : decode cX10_parts 15 = .ok (.iconst 1, 1) := by decide +kernel
theorem dX10_parts_16 : decode cX10_parts 16 = .ok (.iload_n 1, 1) := by decide +kernel
theorem dX10_parts_17 : decode cX10_parts 17 = .ok (.ishl, 1) := by decide +kernel
theorem dX10_parts_18 : decode cX10_parts 18 = .ok (.iconst (-1), 1) := by decide +kernel
theorem dX10_parts_19 : decode cX10_parts 19 = .ok (.ixor, 1) := by decide +kernel
theorem dX10_parts_20 : decode cX10_parts 20 = .ok (.iand, 1) := by decide +kernel
theorem dX10_parts_21 : decode cX10_parts 21 = .ok (.iastore, 1) := by decide +kernel
theorem dX10_parts_22 : decode cX10_parts 22 = .ok (.return_, 1) := by decide +kernel
theorem dX10_reach_0 : decode cX10_reach 0 = .ok (.iconst 1, 1) := by decide +kernel
theorem dX10_reach_1 : decode cX10_reach 1 = .ok (.iload_n 1, 1) := by decide +kernel
theorem dX10_reach_2 : decode cX10_reach 2 = .ok (.ishl, 1) := by decide +kernel
theorem dX10_reach_3 : decode cX10_reach 3 = .ok (.istore_n 3, 1) := by decide +kernel
theorem dX10_reach_4 : decode cX10_reach 4 = .ok (.iconst 0, 1) := by decide +kernel
theorem dX10_reach_5 : decode cX10_reach 5 = .ok (.istore 4, 2) := by decide +kernel
theorem dX10_reach_7 : decode cX10_reach 7 = .ok (.iload_n 3, 1) := by decide +kernel
theorem dX10_reach_8 : decode cX10_reach 8 = .ok (.iload 4, 2) := by decide +kernel
theorem dX10_reach_10 : decode cX10_reach 10 = .ok (.if_icmp .eq 61, 3) := by decide +kernel
theorem dX10_reach_13 : decode cX10_reach 13 = .ok (.iload_n 3, 1) := by decide +kernel
theorem dX10_reach_14 : decode cX10_reach 14 = .ok (.istore 4, 2) := by decide +kernel
theorem dX10_reach_16 : decode cX10_reach 16 = .ok (.iconst 0, 1) := by decide +kernel
theorem dX10_reach_17 : decode cX10_reach 17 = .ok (.istore 5, 2) := by decide +kernel
theorem dX10_reach_19 : decode cX10_reach 19 = .ok (.iload 5, 2) := by decide +kernel
theorem dX10_reach_21 : decode cX10_reach 21 = .ok (.aload_n 0, 1) := by decide +kernel
theorem dX10_reach_22 : decode cX10_reach 22 = .ok (.invokevirtual 66, 3) := by decide +kernel
theorem dX10_reach_25 : decode cX10_reach 25 = .ok (.if_icmp .ge 43, 3) := by decide +kernel
theorem dX10_reach_28 : decode cX10_reach 28 = .ok (.iload 4, 2) := by decide +kernel
theorem dX10_reach_30 : decode cX10_reach 30 = .ok (.iload 5, 2) := by decide +kernel
theorem dX10_reach_32 : decode cX10_reach 32 = .ok (.invokestatic 70, 3) := by decide +kernel
theorem dX10_reach_35 : decode cX10_reach 35 = .ok (.ifCond .eq 27, 3) := by decide +kernel
theorem dX10_reach_38 : decode cX10_reach 38 = .ok (.iload_n 3, 1) := by decide +kernel
theorem dX10_reach_39 : decode cX10_reach 39 = .ok (.aload_n 0, 1) := by decide +kernel
theorem dX10_reach_40 : decode cX10_reach 40 = .ok (.iload 5, 2) := by decide +kernel
theorem dX10_reach_42 : decode cX10_reach 42 = .ok (.invokevirtual 74, 3) := by decide +kernel
theorem dX10_reach_45 : decode cX10_reach 45 = .ok (.iload_n 2, 1) := by decide +kernel
theorem dX10_reach_46 : decode cX10_reach 46 = .ok (.iconst (-1), 1) := by decide +kernel
theorem dX10_reach_47 : decode cX10_reach 47 = .ok (.if_icmp .ne 7, 3) := by decide +kernel
theorem dX10_reach_50 : decode cX10_reach 50 = .ok (.iconst (-1), 1) := by decide +kernel
theorem dX10_reach_51 : decode cX10_reach 51 = .ok (.goto 8, 3) := by decide +kernel
theorem dX10_reach_54 : decode cX10_reach 54 = .ok (.iconst 1, 1) := by decide +kernel
theorem dX10_reach_55 : decode cX10_reach 55 = .ok (.iload_n 2, 1) := by decide +kernel
theorem dX10_reach_56 : decode cX10_reach 56 = .ok (.ishl, 1) := by decide +kernel
theorem dX10_reach_57 : decode cX10_reach 57 = .ok (.iconst (-1), 1) := by decide +kernel
theorem dX10_reach_58 : decode cX10_reach 58 = .ok (.ixor, 1) := by decide +kernel
theorem dX10_reach_59 : decode cX10_reach 59 = .ok (.iand, 1) := by decide +kernel
theorem dX10_reach_60 : decode cX10_reach 60 = .ok (.ior, 1) := by decide +kernel
theorem dX10_reach_61 : decode cX10_reach 61 = .ok (.istore_n 3, 1) := by decide +kernel
theorem dX10_reach_62 : decode cX10_reach 62 = .ok (.iinc 5 1, 3) := by decide +kernel
theorem dX10_reach_65 : decode cX10_reach 65 = .ok (.goto (-46), 3) := by decide +kernel
theorem dX10_reach_68 : decode cX10_reach 68 = .ok (.goto (-61), 3) := by decide +kernel
theorem dX10_reach_71 : decode cX10_reach 71 = .ok (.iload_n 3, 1) := by decide +kernel
theorem dX10_reach_72 : decode cX10_reach 72 = .ok (.ireturn, 1) := by decide +kernel
theorem dX10_component_0 : decode cX10_component 0 = .ok (.aload_n 0, 1) := by decide +kernel
theorem dX10_component_1 : decode cX10_component 1 = .ok (.iload_n 1, 1) := by decide +kernel
theorem dX10_component_2 : decode cX10_component 2 = .ok (.iconst (-1), 1) := by decide +kernel
theorem dX10_component_3 : decode cX10_component 3 = .ok (.invokevirtual 77, 3) := by decide +kernel
theorem dX10_component_6 : decode cX10_component 6 = .ok (.ireturn, 1) := by decide +kernel
theorem dX10_lowest_0 : decode cX10_lowest 0 = .ok (.iload_n 0, 1) := by decide +kernel
theorem dX10_lowest_1 : decode cX10_lowest 1 = .ok (.invokestatic 81, 3) := by decide +kernel
theorem dX10_lowest_4 : decode cX10_lowest 4 = .ok (.ireturn, 1) := by decide +kernel
theorem dX10_componentMany_0 : decode cX10_componentMany 0 = .ok (.iconst 0, 1) := by decide +kernel
theorem dX10_componentMany_1 : decode cX10_componentMany 1 = .ok (.istore_n 1, 1) := by decide +kernel
theorem dX10_componentMany_2 : decode cX10_componentMany 2 = .ok (.iconst 0, 1) := by decide +kernel
theorem dX10_componentMany_3 : decode cX10_componentMany 3 = .ok (.istore_n 2, 1) := by decide +kernel
theorem dX10_componentMany_4 : decode cX10_componentMany 4 = .ok (.iload_n 2, 1) := by decide +kernel
theorem dX10_componentMany_5 : decode cX10_componentMany 5 = .ok (.aload_n 0, 1) := by decide +kernel
theorem dX10_componentMany_6 : decode cX10_componentMany 6 = .ok (.invokevirtual 66, 3) := by decide +kernel
theorem dX10_componentMany_9 : decode cX10_componentMany 9 = .ok (.if_icmp .ge 29, 3) := by decide +kernel
theorem dX10_componentMany_12 : decode cX10_componentMany 12 = .ok (.iload_n 1, 1) := by decide +kernel
theorem dX10_componentMany_13 : decode cX10_componentMany 13 = .ok (.aload_n 0, 1) := by decide +kernel
theorem dX10_componentMany_14 : decode cX10_componentMany 14 = .ok (.iload_n 2, 1) := by decide +kernel
theorem dX10_componentMany_15 : decode cX10_componentMany 15 = .ok (.invokevirtual 84, 3) := by decide +kernel
theorem dX10_componentMany_18 : decode cX10_componentMany 18 = .ok (.invokestatic 87, 3) := by decide +kernel
theorem dX10_componentMany_21 : decode cX10_componentMany 21 = .ok (.iload_n 2, 1) := by decide +kernel
theorem dX10_componentMany_22 : decode cX10_componentMany 22 = .ok (.if_icmp .ne 7, 3) := by decide +kernel
theorem dX10_componentMany_25 : decode cX10_componentMany 25 = .ok (.iconst 1, 1) := by decide +kernel
theorem dX10_componentMany_26 : decode cX10_componentMany 26 = .ok (.goto 4, 3) := by decide +kernel
theorem dX10_componentMany_29 : decode cX10_componentMany 29 = .ok (.iconst 0, 1) := by decide +kernel
theorem dX10_componentMany_30 : decode cX10_componentMany 30 = .ok (.iadd, 1) := by decide +kernel
theorem dX10_componentMany_31 : decode cX10_componentMany 31 = .ok (.istore_n 1, 1) := by decide +kernel
theorem dX10_componentMany_32 : decode cX10_componentMany 32 = .ok (.iinc 2 1, 3) := by decide +kernel
theorem dX10_componentMany_35 : decode cX10_componentMany 35 = .ok (.goto (-31), 3) := by decide +kernel
theorem dX10_componentMany_38 : decode cX10_componentMany 38 = .ok (.iload_n 1, 1) := by decide +kernel
theorem dX10_componentMany_39 : decode cX10_componentMany 39 = .ok (.ireturn, 1) := by decide +kernel
theorem dX10_componentAt_0 : decode cX10_componentAt 0 = .ok (.iload_n 1, 1) := by decide +kernel
theorem dX10_componentAt_1 : decode cX10_componentAt 1 = .ok (.istore_n 2, 1) := by decide +kernel
theorem dX10_componentAt_2 : decode cX10_componentAt 2 = .ok (.iconst 0, 1) := by decide +kernel
theorem dX10_componentAt_3 : decode cX10_componentAt 3 = .ok (.istore_n 3, 1) := by decide +kernel
theorem dX10_componentAt_4 : decode cX10_componentAt 4 = .ok (.iload_n 3, 1) := by decide +kernel
theorem dX10_componentAt_5 : decode cX10_componentAt 5 = .ok (.aload_n 0, 1) := by decide +kernel
theorem dX10_componentAt_6 : decode cX10_componentAt 6 = .ok (.invokevirtual 66, 3) := by decide +kernel
theorem dX10_componentAt_9 : decode cX10_componentAt 9 = .ok (.if_icmp .ge 38, 3) := by decide +kernel
theorem dX10_componentAt_12 : decode cX10_componentAt 12 = .ok (.aload_n 0, 1) := by decide +kernel
theorem dX10_componentAt_13 : decode cX10_componentAt 13 = .ok (.iload_n 3, 1) := by decide +kernel
theorem dX10_componentAt_14 : decode cX10_componentAt 14 = .ok (.invokevirtual 84, 3) := by decide +kernel
theorem dX10_componentAt_17 : decode cX10_componentAt 17 = .ok (.istore 4, 2) := by decide +kernel
theorem dX10_componentAt_19 : decode cX10_componentAt 19 = .ok (.iload 4, 2) := by decide +kernel
theorem dX10_componentAt_21 : decode cX10_componentAt 21 = .ok (.invokestatic 87, 3) := by decide +kernel
theorem dX10_componentAt_24 : decode cX10_componentAt 24 = .ok (.iload_n 3, 1) := by decide +kernel
theorem dX10_componentAt_25 : decode cX10_componentAt 25 = .ok (.if_icmp .eq 6, 3) := by decide +kernel
theorem dX10_componentAt_28 : decode cX10_componentAt 28 = .ok (.goto 13, 3) := by decide +kernel
theorem dX10_componentAt_31 : decode cX10_componentAt 31 = .ok (.iload_n 2, 1) := by decide +kernel
theorem dX10_componentAt_32 : decode cX10_componentAt 32 = .ok (.ifCond .ne 6, 3) := by decide +kernel
theorem dX10_componentAt_35 : decode cX10_componentAt 35 = .ok (.iload 4, 2) := by decide +kernel
theorem dX10_componentAt_37 : decode cX10_componentAt 37 = .ok (.ireturn, 1) := by decide +kernel
theorem dX10_componentAt_38 : decode cX10_componentAt 38 = .ok (.iinc 2 (-1), 3) := by decide +kernel
theorem dX10_componentAt_41 : decode cX10_componentAt 41 = .ok (.iinc 3 1, 3) := by decide +kernel
theorem dX10_componentAt_44 : decode cX10_componentAt 44 = .ok (.goto (-40), 3) := by decide +kernel
theorem dX10_componentAt_47 : decode cX10_componentAt 47 = .ok (.iconst 0, 1) := by decide +kernel
theorem dX10_componentAt_48 : decode cX10_componentAt 48 = .ok (.ireturn, 1) := by decide +kernel
theorem dX10_numberOf_0 : decode cX10_numberOf 0 = .ok (.iconst 0, 1) := by decide +kernel
theorem dX10_numberOf_1 : decode cX10_numberOf 1 = .ok (.istore_n 2, 1) := by decide +kernel
theorem dX10_numberOf_2 : decode cX10_numberOf 2 = .ok (.iconst 0, 1) := by decide +kernel
theorem dX10_numberOf_3 : decode cX10_numberOf 3 = .ok (.istore_n 3, 1) := by decide +kernel
theorem dX10_numberOf_4 : decode cX10_numberOf 4 = .ok (.iload_n 3, 1) := by decide +kernel
theorem dX10_numberOf_5 : decode cX10_numberOf 5 = .ok (.aload_n 0, 1) := by decide +kernel
theorem dX10_numberOf_6 : decode cX10_numberOf 6 = .ok (.iload_n 1, 1) := by decide +kernel
theorem dX10_numberOf_7 : decode cX10_numberOf 7 = .ok (.invokevirtual 84, 3) := by decide +kernel
theorem dX10_numberOf_10 : decode cX10_numberOf 10 = .ok (.invokestatic 87, 3) := by decide +kernel
theorem dX10_numberOf_13 : decode cX10_numberOf 13 = .ok (.if_icmp .ge 29, 3) := by decide +kernel
theorem dX10_numberOf_16 : decode cX10_numberOf 16 = .ok (.iload_n 2, 1) := by decide +kernel
theorem dX10_numberOf_17 : decode cX10_numberOf 17 = .ok (.aload_n 0, 1) := by decide +kernel
theorem dX10_numberOf_18 : decode cX10_numberOf 18 = .ok (.iload_n 3, 1) := by decide +kernel
theorem dX10_numberOf_19 : decode cX10_numberOf 19 = .ok (.invokevirtual 84, 3) := by decide +kernel
theorem dX10_numberOf_22 : decode cX10_numberOf 22 = .ok (.invokestatic 87, 3) := by decide +kernel
theorem dX10_numberOf_25 : decode cX10_numberOf 25 = .ok (.iload_n 3, 1) := by decide +kernel
theorem dX10_numberOf_26 : decode cX10_numberOf 26 = .ok (.if_icmp .ne 7, 3) := by decide +kernel
theorem dX10_numberOf_29 : decode cX10_numberOf 29 = .ok (.iconst 1, 1) := by decide +kernel
theorem dX10_numberOf_30 : decode cX10_numberOf 30 = .ok (.goto 4, 3) := by decide +kernel
theorem dX10_numberOf_33 : decode cX10_numberOf 33 = .ok (.iconst 0, 1) := by decide +kernel
theorem dX10_numberOf_34 : decode cX10_numberOf 34 = .ok (.iadd, 1) := by decide +kernel
theorem dX10_numberOf_35 : decode cX10_numberOf 35 = .ok (.istore_n 2, 1) := by decide +kernel
theorem dX10_numberOf_36 : decode cX10_numberOf 36 = .ok (.iinc 3 1, 3) := by decide +kernel
theorem dX10_numberOf_39 : decode cX10_numberOf 39 = .ok (.goto (-35), 3) := by decide +kernel
theorem dX10_numberOf_42 : decode cX10_numberOf 42 = .ok (.iload_n 2, 1) := by decide +kernel
theorem dX10_numberOf_43 : decode cX10_numberOf 43 = .ok (.ireturn, 1) := by decide +kernel
theorem dX10_far_0 : decode cX10_far 0 = .ok (.iconst 1, 1) := by decide +kernel
theorem dX10_far_1 : decode cX10_far 1 = .ok (.iload_n 1, 1) := by decide +kernel
theorem dX10_far_2 : decode cX10_far 2 = .ok (.ishl, 1) := by decide +kernel
theorem dX10_far_3 : decode cX10_far 3 = .ok (.istore_n 3, 1) := by decide +kernel
theorem dX10_far_4 : decode cX10_far 4 = .ok (.iconst 0, 1) := by decide +kernel
theorem dX10_far_5 : decode cX10_far 5 = .ok (.istore 4, 2) := by decide +kernel
theorem dX10_far_7 : decode cX10_far 7 = .ok (.iload 4, 2) := by decide +kernel
theorem dX10_far_9 : decode cX10_far 9 = .ok (.aload_n 0, 1) := by decide +kernel
theorem dX10_far_10 : decode cX10_far 10 = .ok (.invokevirtual 66, 3) := by decide +kernel
theorem dX10_far_13 : decode cX10_far 13 = .ok (.if_icmp .ge 64, 3) := by decide +kernel
theorem dX10_far_16 : decode cX10_far 16 = .ok (.iload_n 3, 1) := by decide +kernel
theorem dX10_far_17 : decode cX10_far 17 = .ok (.iload_n 2, 1) := by decide +kernel
theorem dX10_far_18 : decode cX10_far 18 = .ok (.invokestatic 70, 3) := by decide +kernel
theorem dX10_far_21 : decode cX10_far 21 = .ok (.ifCond .eq 6, 3) := by decide +kernel
theorem dX10_far_24 : decode cX10_far 24 = .ok (.iload 4, 2) := by decide +kernel
theorem dX10_far_26 : decode cX10_far 26 = .ok (.ireturn, 1) := by decide +kernel
theorem dX10_far_27 : decode cX10_far 27 = .ok (.iload_n 3, 1) := by decide +kernel
theorem dX10_far_28 : decode cX10_far 28 = .ok (.istore 5, 2) := by decide +kernel
theorem dX10_far_30 : decode cX10_far 30 = .ok (.iconst 0, 1) := by decide +kernel
theorem dX10_far_31 : decode cX10_far 31 = .ok (.istore 6, 2) := by decide +kernel
theorem dX10_far_33 : decode cX10_far 33 = .ok (.iload 6, 2) := by decide +kernel
theorem dX10_far_35 : decode cX10_far 35 = .ok (.aload_n 0, 1) := by decide +kernel
theorem dX10_far_36 : decode cX10_far 36 = .ok (.invokevirtual 66, 3) := by decide +kernel
theorem dX10_far_39 : decode cX10_far 39 = .ok (.if_icmp .ge 29, 3) := by decide +kernel
theorem dX10_far_42 : decode cX10_far 42 = .ok (.iload_n 3, 1) := by decide +kernel
theorem dX10_far_43 : decode cX10_far 43 = .ok (.iload 6, 2) := by decide +kernel
theorem dX10_far_45 : decode cX10_far 45 = .ok (.invokestatic 70, 3) := by decide +kernel
theorem dX10_far_48 : decode cX10_far 48 = .ok (.ifCond .eq 14, 3) := by decide +kernel
theorem dX10_far_51 : decode cX10_far 51 = .ok (.iload 5, 2) := by decide +kernel
theorem dX10_far_53 : decode cX10_far 53 = .ok (.aload_n 0, 1) := by decide +kernel
theorem dX10_far_54 : decode cX10_far 54 = .ok (.iload 6, 2) := by decide +kernel
theorem dX10_far_56 : decode cX10_far 56 = .ok (.invokevirtual 74, 3) := by decide +kernel
theorem dX10_far_59 : decode cX10_far 59 = .ok (.ior, 1) := by decide +kernel
theorem dX10_far_60 : decode cX10_far 60 = .ok (.istore 5, 2) := by decide +kernel
theorem dX10_far_62 : decode cX10_far 62 = .ok (.iinc 6 1, 3) := by decide +kernel
theorem dX10_far_65 : decode cX10_far 65 = .ok (.goto (-32), 3) := by decide +kernel
theorem dX10_far_68 : decode cX10_far 68 = .ok (.iload 5, 2) := by decide +kernel
theorem dX10_far_70 : decode cX10_far 70 = .ok (.istore_n 3, 1) := by decide +kernel
theorem dX10_far_71 : decode cX10_far 71 = .ok (.iinc 4 1, 3) := by decide +kernel
theorem dX10_far_74 : decode cX10_far 74 = .ok (.goto (-67), 3) := by decide +kernel
theorem dX10_far_77 : decode cX10_far 77 = .ok (.iconst (-1), 1) := by decide +kernel
theorem dX10_far_78 : decode cX10_far 78 = .ok (.ireturn, 1) := by decide +kernel
theorem dX10_eccentricity_0 : decode cX10_eccentricity 0 = .ok (.iconst 0, 1) := by decide +kernel
theorem dX10_eccentricity_1 : decode cX10_eccentricity 1 = .ok (.istore_n 2, 1) := by decide +kernel
theorem dX10_eccentricity_2 : decode cX10_eccentricity 2 = .ok (.aload_n 0, 1) := by decide +kernel
theorem dX10_eccentricity_3 : decode cX10_eccentricity 3 = .ok (.iload_n 1, 1) := by decide +kernel
theorem dX10_eccentricity_4 : decode cX10_eccentricity 4 = .ok (.invokevirtual 84, 3) := by decide +kernel
theorem dX10_eccentricity_7 : decode cX10_eccentricity 7 = .ok (.istore_n 3, 1) := by decide +kernel
theorem dX10_eccentricity_8 : decode cX10_eccentricity 8 = .ok (.iconst 0, 1) := by decide +kernel
theorem dX10_eccentricity_9 : decode cX10_eccentricity 9 = .ok (.istore 4, 2) := by decide +kernel
theorem dX10_eccentricity_11 : decode cX10_eccentricity 11 = .ok (.iload 4, 2) := by decide +kernel
theorem dX10_eccentricity_13 : decode cX10_eccentricity 13 = .ok (.aload_n 0, 1) := by decide +kernel
theorem dX10_eccentricity_14 : decode cX10_eccentricity 14 = .ok (.invokevirtual 66, 3) := by decide +kernel
theorem dX10_eccentricity_17 : decode cX10_eccentricity 17 = .ok (.if_icmp .ge 30, 3) := by decide +kernel
theorem dX10_eccentricity_20 : decode cX10_eccentricity 20 = .ok (.iload_n 3, 1) := by decide +kernel
theorem dX10_eccentricity_21 : decode cX10_eccentricity 21 = .ok (.iload 4, 2) := by decide +kernel
theorem dX10_eccentricity_23 : decode cX10_eccentricity 23 = .ok (.invokestatic 70, 3) := by decide +kernel
theorem dX10_eccentricity_26 : decode cX10_eccentricity 26 = .ok (.ifCond .eq 15, 3) := by decide +kernel
theorem dX10_eccentricity_29 : decode cX10_eccentricity 29 = .ok (.iload_n 2, 1) := by decide +kernel
theorem dX10_eccentricity_30 : decode cX10_eccentricity 30 = .ok (.aload_n 0, 1) := by decide +kernel
theorem dX10_eccentricity_31 : decode cX10_eccentricity 31 = .ok (.iload_n 1, 1) := by decide +kernel
theorem dX10_eccentricity_32 : decode cX10_eccentricity 32 = .ok (.iload 4, 2) := by decide +kernel
theorem dX10_eccentricity_34 : decode cX10_eccentricity 34 = .ok (.invokevirtual 90, 3) := by decide +kernel
theorem dX10_eccentricity_37 : decode cX10_eccentricity 37 = .ok (.invokestatic 93, 3) := by decide +kernel
theorem dX10_eccentricity_40 : decode cX10_eccentricity 40 = .ok (.istore_n 2, 1) := by decide +kernel
theorem dX10_eccentricity_41 : decode cX10_eccentricity 41 = .ok (.iinc 4 1, 3) := by decide +kernel
theorem dX10_eccentricity_44 : decode cX10_eccentricity 44 = .ok (.goto (-33), 3) := by decide +kernel
theorem dX10_eccentricity_47 : decode cX10_eccentricity 47 = .ok (.iload_n 2, 1) := by decide +kernel
theorem dX10_eccentricity_48 : decode cX10_eccentricity 48 = .ok (.ireturn, 1) := by decide +kernel
theorem dX10_weightOf_0 : decode cX10_weightOf 0 = .ok (.iconst 0, 1) := by decide +kernel
theorem dX10_weightOf_1 : decode cX10_weightOf 1 = .ok (.istore_n 3, 1) := by decide +kernel
theorem dX10_weightOf_2 : decode cX10_weightOf 2 = .ok (.iconst 0, 1) := by decide +kernel
theorem dX10_weightOf_3 : decode cX10_weightOf 3 = .ok (.istore 4, 2) := by decide +kernel
theorem dX10_weightOf_5 : decode cX10_weightOf 5 = .ok (.iload 4, 2) := by decide +kernel
theorem dX10_weightOf_7 : decode cX10_weightOf 7 = .ok (.aload_n 0, 1) := by decide +kernel
theorem dX10_weightOf_8 : decode cX10_weightOf 8 = .ok (.invokevirtual 66, 3) := by decide +kernel
theorem dX10_weightOf_11 : decode cX10_weightOf 11 = .ok (.if_icmp .ge 39, 3) := by decide +kernel
theorem dX10_weightOf_14 : decode cX10_weightOf 14 = .ok (.iload_n 1, 1) := by decide +kernel
theorem dX10_weightOf_15 : decode cX10_weightOf 15 = .ok (.iload 4, 2) := by decide +kernel
theorem dX10_weightOf_17 : decode cX10_weightOf 17 = .ok (.invokestatic 70, 3) := by decide +kernel
theorem dX10_weightOf_20 : decode cX10_weightOf 20 = .ok (.ifCond .eq 24, 3) := by decide +kernel
theorem dX10_weightOf_23 : decode cX10_weightOf 23 = .ok (.iload_n 3, 1) := by decide +kernel
theorem dX10_weightOf_24 : decode cX10_weightOf 24 = .ok (.iload_n 2, 1) := by decide +kernel
theorem dX10_weightOf_25 : decode cX10_weightOf 25 = .ok (.ifCond .eq 16, 3) := by decide +kernel
theorem dX10_weightOf_28 : decode cX10_weightOf 28 = .ok (.aload_n 0, 1) := by decide +kernel
theorem dX10_weightOf_29 : decode cX10_weightOf 29 = .ok (.getfield 19, 3) := by decide +kernel
theorem dX10_weightOf_32 : decode cX10_weightOf 32 = .ok (.bipush 10, 2) := by decide +kernel
theorem dX10_weightOf_34 : decode cX10_weightOf 34 = .ok (.iload 4, 2) := by decide +kernel
theorem dX10_weightOf_36 : decode cX10_weightOf 36 = .ok (.iadd, 1) := by decide +kernel
theorem dX10_weightOf_37 : decode cX10_weightOf 37 = .ok (.iaload, 1) := by decide +kernel
theorem dX10_weightOf_38 : decode cX10_weightOf 38 = .ok (.goto 4, 3) := by decide +kernel
theorem dX10_weightOf_41 : decode cX10_weightOf 41 = .ok (.iconst 1, 1) := by decide +kernel
theorem dX10_weightOf_42 : decode cX10_weightOf 42 = .ok (.iadd, 1) := by decide +kernel
theorem dX10_weightOf_43 : decode cX10_weightOf 43 = .ok (.istore_n 3, 1) := by decide +kernel
theorem dX10_weightOf_44 : decode cX10_weightOf 44 = .ok (.iinc 4 1, 3) := by decide +kernel
theorem dX10_weightOf_47 : decode cX10_weightOf 47 = .ok (.goto (-42), 3) := by decide +kernel
theorem dX10_weightOf_50 : decode cX10_weightOf 50 = .ok (.iload_n 3, 1) := by decide +kernel
theorem dX10_weightOf_51 : decode cX10_weightOf 51 = .ok (.ireturn, 1) := by decide +kernel
theorem dX10_greatestPart_0 : decode cX10_greatestPart 0 = .ok (.iconst 0, 1) := by decide +kernel
theorem dX10_greatestPart_1 : decode cX10_greatestPart 1 = .ok (.istore_n 3, 1) := by decide +kernel
theorem dX10_greatestPart_2 : decode cX10_greatestPart 2 = .ok (.iconst 0, 1) := by decide +kernel
theorem dX10_greatestPart_3 : decode cX10_greatestPart 3 = .ok (.istore 4, 2) := by decide +kernel
theorem dX10_greatestPart_5 : decode cX10_greatestPart 5 = .ok (.iload 4, 2) := by decide +kernel
theorem dX10_greatestPart_7 : decode cX10_greatestPart 7 = .ok (.aload_n 0, 1) := by decide +kernel
theorem dX10_greatestPart_8 : decode cX10_greatestPart 8 = .ok (.invokevirtual 66, 3) := by decide +kernel
theorem dX10_greatestPart_11 : decode cX10_greatestPart 11 = .ok (.if_icmp .ge 39, 3) := by decide +kernel
theorem dX10_greatestPart_14 : decode cX10_greatestPart 14 = .ok (.aload_n 0, 1) := by decide +kernel
theorem dX10_greatestPart_15 : decode cX10_greatestPart 15 = .ok (.iload_n 1, 1) := by decide +kernel
theorem dX10_greatestPart_16 : decode cX10_greatestPart 16 = .ok (.invokevirtual 74, 3) := by decide +kernel
theorem dX10_greatestPart_19 : decode cX10_greatestPart 19 = .ok (.iload 4, 2) := by decide +kernel
theorem dX10_greatestPart_21 : decode cX10_greatestPart 21 = .ok (.invokestatic 70, 3) := by decide +kernel
theorem dX10_greatestPart_24 : decode cX10_greatestPart 24 = .ok (.ifCond .eq 20, 3) := by decide +kernel
theorem dX10_greatestPart_27 : decode cX10_greatestPart 27 = .ok (.iload_n 3, 1) := by decide +kernel
theorem dX10_greatestPart_28 : decode cX10_greatestPart 28 = .ok (.aload_n 0, 1) := by decide +kernel
theorem dX10_greatestPart_29 : decode cX10_greatestPart 29 = .ok (.aload_n 0, 1) := by decide +kernel
theorem dX10_greatestPart_30 : decode cX10_greatestPart 30 = .ok (.iload 4, 2) := by decide +kernel
theorem dX10_greatestPart_32 : decode cX10_greatestPart 32 = .ok (.iload_n 1, 1) := by decide +kernel
theorem dX10_greatestPart_33 : decode cX10_greatestPart 33 = .ok (.invokevirtual 77, 3) := by decide +kernel
theorem dX10_greatestPart_36 : decode cX10_greatestPart 36 = .ok (.iload_n 2, 1) := by decide +kernel
theorem dX10_greatestPart_37 : decode cX10_greatestPart 37 = .ok (.invokevirtual 98, 3) := by decide +kernel
theorem dX10_greatestPart_40 : decode cX10_greatestPart 40 = .ok (.invokestatic 93, 3) := by decide +kernel
theorem dX10_greatestPart_43 : decode cX10_greatestPart 43 = .ok (.istore_n 3, 1) := by decide +kernel
theorem dX10_greatestPart_44 : decode cX10_greatestPart 44 = .ok (.iinc 4 1, 3) := by decide +kernel
theorem dX10_greatestPart_47 : decode cX10_greatestPart 47 = .ok (.goto (-42), 3) := by decide +kernel
theorem dX10_greatestPart_50 : decode cX10_greatestPart 50 = .ok (.iload_n 3, 1) := by decide +kernel
theorem dX10_greatestPart_51 : decode cX10_greatestPart 51 = .ok (.ireturn, 1) := by decide +kernel
theorem dX10_measure_0 : decode cX10_measure 0 = .ok (.iload_n 2, 1) := by decide +kernel
theorem dX10_measure_1 : decode cX10_measure 1 = .ok (.ifCond .ne 11, 3) := by decide +kernel
theorem dX10_measure_4 : decode cX10_measure 4 = .ok (.aload_n 0, 1) := by decide +kernel
theorem dX10_measure_5 : decode cX10_measure 5 = .ok (.iload_n 1, 1) := by decide +kernel
theorem dX10_measure_6 : decode cX10_measure 6 = .ok (.invokevirtual 102, 3) := by decide +kernel
theorem dX10_measure_9 : decode cX10_measure 9 = .ok (.goto 18, 3) := by decide +kernel
theorem dX10_measure_12 : decode cX10_measure 12 = .ok (.aload_n 0, 1) := by decide +kernel
theorem dX10_measure_13 : decode cX10_measure 13 = .ok (.iload_n 1, 1) := by decide +kernel
theorem dX10_measure_14 : decode cX10_measure 14 = .ok (.iload_n 2, 1) := by decide +kernel
theorem dX10_measure_15 : decode cX10_measure 15 = .ok (.iconst 2, 1) := by decide +kernel
theorem dX10_measure_16 : decode cX10_measure 16 = .ok (.if_icmp .ne 7, 3) := by decide +kernel
theorem dX10_measure_19 : decode cX10_measure 19 = .ok (.iconst 1, 1) := by decide +kernel
theorem dX10_measure_20 : decode cX10_measure 20 = .ok (.goto 4, 3) := by decide +kernel
theorem dX10_measure_23 : decode cX10_measure 23 = .ok (.iconst 0, 1) := by decide +kernel
theorem dX10_measure_24 : decode cX10_measure 24 = .ok (.invokevirtual 105, 3) := by decide +kernel
theorem dX10_measure_27 : decode cX10_measure 27 = .ok (.ireturn, 1) := by decide +kernel
theorem dX10_leastOf_0 : decode cX10_leastOf 0 = .ok (.iconst 0, 1) := by decide +kernel
theorem dX10_leastOf_1 : decode cX10_leastOf 1 = .ok (.istore_n 3, 1) := by decide +kernel
theorem dX10_leastOf_2 : decode cX10_leastOf 2 = .ok (.iconst 0, 1) := by decide +kernel
theorem dX10_leastOf_3 : decode cX10_leastOf 3 = .ok (.istore 4, 2) := by decide +kernel
theorem dX10_leastOf_5 : decode cX10_leastOf 5 = .ok (.iconst 0, 1) := by decide +kernel
theorem dX10_leastOf_6 : decode cX10_leastOf 6 = .ok (.istore 5, 2) := by decide +kernel
theorem dX10_leastOf_8 : decode cX10_leastOf 8 = .ok (.iload 5, 2) := by decide +kernel
theorem dX10_leastOf_10 : decode cX10_leastOf 10 = .ok (.aload_n 0, 1) := by decide +kernel
theorem dX10_leastOf_11 : decode cX10_leastOf 11 = .ok (.invokevirtual 66, 3) := by decide +kernel
theorem dX10_leastOf_14 : decode cX10_leastOf 14 = .ok (.if_icmp .ge 67, 3) := by decide +kernel
theorem dX10_leastOf_17 : decode cX10_leastOf 17 = .ok (.iload_n 1, 1) := by decide +kernel
theorem dX10_leastOf_18 : decode cX10_leastOf 18 = .ok (.iload 5, 2) := by decide +kernel
theorem dX10_leastOf_20 : decode cX10_leastOf 20 = .ok (.invokestatic 70, 3) := by decide +kernel
theorem dX10_leastOf_23 : decode cX10_leastOf 23 = .ok (.ifCond .ne 6, 3) := by decide +kernel
theorem dX10_leastOf_26 : decode cX10_leastOf 26 = .ok (.goto 49, 3) := by decide +kernel
theorem dX10_leastOf_29 : decode cX10_leastOf 29 = .ok (.aload_n 0, 1) := by decide +kernel
theorem dX10_leastOf_30 : decode cX10_leastOf 30 = .ok (.iload 5, 2) := by decide +kernel
theorem dX10_leastOf_32 : decode cX10_leastOf 32 = .ok (.iload_n 2, 1) := by decide +kernel
theorem dX10_leastOf_33 : decode cX10_leastOf 33 = .ok (.invokevirtual 108, 3) := by decide +kernel
theorem dX10_leastOf_36 : decode cX10_leastOf 36 = .ok (.istore 6, 2) := by decide +kernel
theorem dX10_leastOf_38 : decode cX10_leastOf 38 = .ok (.iload_n 3, 1) := by decide +kernel
theorem dX10_leastOf_39 : decode cX10_leastOf 39 = .ok (.ifCond .eq 10, 3) := by decide +kernel
theorem dX10_leastOf_42 : decode cX10_leastOf 42 = .ok (.iload 6, 2) := by decide +kernel
theorem dX10_leastOf_44 : decode cX10_leastOf 44 = .ok (.iload 4, 2) := by decide +kernel
theorem dX10_leastOf_46 : decode cX10_leastOf 46 = .ok (.if_icmp .ge 15, 3) := by decide +kernel
theorem dX10_leastOf_49 : decode cX10_leastOf 49 = .ok (.iconst 1, 1) := by decide +kernel
theorem dX10_leastOf_50 : decode cX10_leastOf 50 = .ok (.iload 5, 2) := by decide +kernel
theorem dX10_leastOf_52 : decode cX10_leastOf 52 = .ok (.ishl, 1) := by decide +kernel
theorem dX10_leastOf_53 : decode cX10_leastOf 53 = .ok (.istore_n 3, 1) := by decide +kernel
theorem dX10_leastOf_54 : decode cX10_leastOf 54 = .ok (.iload 6, 2) := by decide +kernel
theorem dX10_leastOf_56 : decode cX10_leastOf 56 = .ok (.istore 4, 2) := by decide +kernel
theorem dX10_leastOf_58 : decode cX10_leastOf 58 = .ok (.goto 17, 3) := by decide +kernel
theorem dX10_leastOf_61 : decode cX10_leastOf 61 = .ok (.iload 6, 2) := by decide +kernel
theorem dX10_leastOf_63 : decode cX10_leastOf 63 = .ok (.iload 4, 2) := by decide +kernel
theorem dX10_leastOf_65 : decode cX10_leastOf 65 = .ok (.if_icmp .ne 10, 3) := by decide +kernel
theorem dX10_leastOf_68 : decode cX10_leastOf 68 = .ok (.iload_n 3, 1) := by decide +kernel
theorem dX10_leastOf_69 : decode cX10_leastOf 69 = .ok (.iconst 1, 1) := by decide +kernel
theorem dX10_leastOf_70 : decode cX10_leastOf 70 = .ok (.iload 5, 2) := by decide +kernel
theorem dX10_leastOf_72 : decode cX10_leastOf 72 = .ok (.ishl, 1) := by decide +kernel
theorem dX10_leastOf_73 : decode cX10_leastOf 73 = .ok (.ior, 1) := by decide +kernel
theorem dX10_leastOf_74 : decode cX10_leastOf 74 = .ok (.istore_n 3, 1) := by decide +kernel
theorem dX10_leastOf_75 : decode cX10_leastOf 75 = .ok (.iinc 5 1, 3) := by decide +kernel
theorem dX10_leastOf_78 : decode cX10_leastOf 78 = .ok (.goto (-70), 3) := by decide +kernel
theorem dX10_leastOf_81 : decode cX10_leastOf 81 = .ok (.iload_n 3, 1) := by decide +kernel
theorem dX10_leastOf_82 : decode cX10_leastOf 82 = .ok (.ireturn, 1) := by decide +kernel
theorem dX10_diameter_0 : decode cX10_diameter 0 = .ok (.iconst 0, 1) := by decide +kernel
theorem dX10_diameter_1 : decode cX10_diameter 1 = .ok (.istore_n 2, 1) := by decide +kernel
theorem dX10_diameter_2 : decode cX10_diameter 2 = .ok (.iconst 0, 1) := by decide +kernel
theorem dX10_diameter_3 : decode cX10_diameter 3 = .ok (.istore_n 3, 1) := by decide +kernel
theorem dX10_diameter_4 : decode cX10_diameter 4 = .ok (.iload_n 3, 1) := by decide +kernel
theorem dX10_diameter_5 : decode cX10_diameter 5 = .ok (.aload_n 0, 1) := by decide +kernel
theorem dX10_diameter_6 : decode cX10_diameter 6 = .ok (.invokevirtual 66, 3) := by decide +kernel
theorem dX10_diameter_9 : decode cX10_diameter 9 = .ok (.if_icmp .ge 27, 3) := by decide +kernel
theorem dX10_diameter_12 : decode cX10_diameter 12 = .ok (.iload_n 1, 1) := by decide +kernel
theorem dX10_diameter_13 : decode cX10_diameter 13 = .ok (.iload_n 3, 1) := by decide +kernel
theorem dX10_diameter_14 : decode cX10_diameter 14 = .ok (.invokestatic 70, 3) := by decide +kernel
theorem dX10_diameter_17 : decode cX10_diameter 17 = .ok (.ifCond .eq 13, 3) := by decide +kernel
theorem dX10_diameter_20 : decode cX10_diameter 20 = .ok (.iload_n 2, 1) := by decide +kernel
theorem dX10_diameter_21 : decode cX10_diameter 21 = .ok (.aload_n 0, 1) := by decide +kernel
theorem dX10_diameter_22 : decode cX10_diameter 22 = .ok (.iload_n 3, 1) := by decide +kernel
theorem dX10_diameter_23 : decode cX10_diameter 23 = .ok (.invokevirtual 102, 3) := by decide +kernel
theorem dX10_diameter_26 : decode cX10_diameter 26 = .ok (.invokestatic 93, 3) := by decide +kernel
theorem dX10_diameter_29 : decode cX10_diameter 29 = .ok (.istore_n 2, 1) := by decide +kernel
theorem dX10_diameter_30 : decode cX10_diameter 30 = .ok (.iinc 3 1, 3) := by decide +kernel
theorem dX10_diameter_33 : decode cX10_diameter 33 = .ok (.goto (-29), 3) := by decide +kernel
theorem dX10_diameter_36 : decode cX10_diameter 36 = .ok (.iload_n 2, 1) := by decide +kernel
theorem dX10_diameter_37 : decode cX10_diameter 37 = .ok (.ireturn, 1) := by decide +kernel
theorem dX10_leavesIn_0 : decode cX10_leavesIn 0 = .ok (.iconst 0, 1) := by decide +kernel
theorem dX10_leavesIn_1 : decode cX10_leavesIn 1 = .ok (.istore_n 2, 1) := by decide +kernel
theorem dX10_leavesIn_2 : decode cX10_leavesIn 2 = .ok (.iconst 0, 1) := by decide +kernel
theorem dX10_leavesIn_3 : decode cX10_leavesIn 3 = .ok (.istore_n 3, 1) := by decide +kernel
theorem dX10_leavesIn_4 : decode cX10_leavesIn 4 = .ok (.iload_n 3, 1) := by decide +kernel
theorem dX10_leavesIn_5 : decode cX10_leavesIn 5 = .ok (.aload_n 0, 1) := by decide +kernel
theorem dX10_leavesIn_6 : decode cX10_leavesIn 6 = .ok (.invokevirtual 66, 3) := by decide +kernel
theorem dX10_leavesIn_9 : decode cX10_leavesIn 9 = .ok (.if_icmp .ge 37, 3) := by decide +kernel
theorem dX10_leavesIn_12 : decode cX10_leavesIn 12 = .ok (.iload_n 2, 1) := by decide +kernel
theorem dX10_leavesIn_13 : decode cX10_leavesIn 13 = .ok (.iload_n 1, 1) := by decide +kernel
theorem dX10_leavesIn_14 : decode cX10_leavesIn 14 = .ok (.iload_n 3, 1) := by decide +kernel
theorem dX10_leavesIn_15 : decode cX10_leavesIn 15 = .ok (.invokestatic 70, 3) := by decide +kernel
theorem dX10_leavesIn_18 : decode cX10_leavesIn 18 = .ok (.ifCond .eq 19, 3) := by decide +kernel
theorem dX10_leavesIn_21 : decode cX10_leavesIn 21 = .ok (.aload_n 0, 1) := by decide +kernel
theorem dX10_leavesIn_22 : decode cX10_leavesIn 22 = .ok (.iload_n 3, 1) := by decide +kernel
theorem dX10_leavesIn_23 : decode cX10_leavesIn 23 = .ok (.invokevirtual 74, 3) := by decide +kernel
theorem dX10_leavesIn_26 : decode cX10_leavesIn 26 = .ok (.invokestatic 111, 3) := by decide +kernel
theorem dX10_leavesIn_29 : decode cX10_leavesIn 29 = .ok (.iconst 1, 1) := by decide +kernel
theorem dX10_leavesIn_30 : decode cX10_leavesIn 30 = .ok (.if_icmp .ne 7, 3) := by decide +kernel
theorem dX10_leavesIn_33 : decode cX10_leavesIn 33 = .ok (.iconst 1, 1) := by decide +kernel
theorem dX10_leavesIn_34 : decode cX10_leavesIn 34 = .ok (.goto 4, 3) := by decide +kernel
theorem dX10_leavesIn_37 : decode cX10_leavesIn 37 = .ok (.iconst 0, 1) := by decide +kernel
theorem dX10_leavesIn_38 : decode cX10_leavesIn 38 = .ok (.iadd, 1) := by decide +kernel
theorem dX10_leavesIn_39 : decode cX10_leavesIn 39 = .ok (.istore_n 2, 1) := by decide +kernel
theorem dX10_leavesIn_40 : decode cX10_leavesIn 40 = .ok (.iinc 3 1, 3) := by decide +kernel
theorem dX10_leavesIn_43 : decode cX10_leavesIn 43 = .ok (.goto (-39), 3) := by decide +kernel
theorem dX10_leavesIn_46 : decode cX10_leavesIn 46 = .ok (.iload_n 2, 1) := by decide +kernel
theorem dX10_leavesIn_47 : decode cX10_leavesIn 47 = .ok (.ireturn, 1) := by decide +kernel
theorem dX10_isLess_0 : decode cX10_isLess 0 = .ok (.iload_n 0, 1) := by decide +kernel
theorem dX10_isLess_1 : decode cX10_isLess 1 = .ok (.bipush 20, 2) := by decide +kernel
theorem dX10_isLess_3 : decode cX10_isLess 3 = .ok (.iconst 2, 1) := by decide +kernel
theorem dX10_isLess_4 : decode cX10_isLess 4 = .ok (.iload_n 0, 1) := by decide +kernel
theorem dX10_isLess_5 : decode cX10_isLess 5 = .ok (.invokestatic 111, 3) := by decide +kernel
theorem dX10_isLess_8 : decode cX10_isLess 8 = .ok (.imul, 1) := by decide +kernel
theorem dX10_isLess_9 : decode cX10_isLess 9 = .ok (.isub, 1) := by decide +kernel
theorem dX10_isLess_10 : decode cX10_isLess 10 = .ok (.ishl, 1) := by decide +kernel
theorem dX10_isLess_11 : decode cX10_isLess 11 = .ok (.iload_n 1, 1) := by decide +kernel
theorem dX10_isLess_12 : decode cX10_isLess 12 = .ok (.bipush 20, 2) := by decide +kernel
theorem dX10_isLess_14 : decode cX10_isLess 14 = .ok (.iconst 2, 1) := by decide +kernel
theorem dX10_isLess_15 : decode cX10_isLess 15 = .ok (.iload_n 1, 1) := by decide +kernel
theorem dX10_isLess_16 : decode cX10_isLess 16 = .ok (.invokestatic 111, 3) := by decide +kernel
theorem dX10_isLess_19 : decode cX10_isLess 19 = .ok (.imul, 1) := by decide +kernel
theorem dX10_isLess_20 : decode cX10_isLess 20 = .ok (.isub, 1) := by decide +kernel
theorem dX10_isLess_21 : decode cX10_isLess 21 = .ok (.ishl, 1) := by decide +kernel
theorem dX10_isLess_22 : decode cX10_isLess 22 = .ok (.if_icmp .ge 7, 3) := by decide +kernel
theorem dX10_isLess_25 : decode cX10_isLess 25 = .ok (.iconst 1, 1) := by decide +kernel
theorem dX10_isLess_26 : decode cX10_isLess 26 = .ok (.goto 4, 3) := by decide +kernel
theorem dX10_isLess_29 : decode cX10_isLess 29 = .ok (.iconst 0, 1) := by decide +kernel
theorem dX10_isLess_30 : decode cX10_isLess 30 = .ok (.ireturn, 1) := by decide +kernel
theorem dX10_wordOf_0 : decode cX10_wordOf 0 = .ok (.bipush 11, 2) := by decide +kernel
theorem dX10_wordOf_2 : decode cX10_wordOf 2 = .ok (.iload_n 3, 1) := by decide +kernel
theorem dX10_wordOf_3 : decode cX10_wordOf 3 = .ok (.imul, 1) := by decide +kernel
theorem dX10_wordOf_4 : decode cX10_wordOf 4 = .ok (.istore 4, 2) := by decide +kernel
theorem dX10_wordOf_6 : decode cX10_wordOf 6 = .ok (.iconst 0, 1) := by decide +kernel
theorem dX10_wordOf_7 : decode cX10_wordOf 7 = .ok (.istore 5, 2) := by decide +kernel
theorem dX10_wordOf_9 : decode cX10_wordOf 9 = .ok (.iconst 0, 1) := by decide +kernel
theorem dX10_wordOf_10 : decode cX10_wordOf 10 = .ok (.istore 6, 2) := by decide +kernel
theorem dX10_wordOf_12 : decode cX10_wordOf 12 = .ok (.iload 6, 2) := by decide +kernel
theorem dX10_wordOf_14 : decode cX10_wordOf 14 = .ok (.aload_n 0, 1) := by decide +kernel
theorem dX10_wordOf_15 : decode cX10_wordOf 15 = .ok (.invokevirtual 66, 3) := by decide +kernel
theorem dX10_wordOf_18 : decode cX10_wordOf 18 = .ok (.if_icmp .ge 115, 3) := by decide +kernel
theorem dX10_wordOf_21 : decode cX10_wordOf 21 = .ok (.aload_n 0, 1) := by decide +kernel
theorem dX10_wordOf_22 : decode cX10_wordOf 22 = .ok (.iload_n 1, 1) := by decide +kernel
theorem dX10_wordOf_23 : decode cX10_wordOf 23 = .ok (.invokevirtual 74, 3) := by decide +kernel
theorem dX10_wordOf_26 : decode cX10_wordOf 26 = .ok (.iload 6, 2) := by decide +kernel
theorem dX10_wordOf_28 : decode cX10_wordOf 28 = .ok (.invokestatic 70, 3) := by decide +kernel
theorem dX10_wordOf_31 : decode cX10_wordOf 31 = .ok (.ifCond .eq 96, 3) := by decide +kernel
theorem dX10_wordOf_34 : decode cX10_wordOf 34 = .ok (.iload 6, 2) := by decide +kernel
theorem dX10_wordOf_36 : decode cX10_wordOf 36 = .ok (.iload_n 2, 1) := by decide +kernel
theorem dX10_wordOf_37 : decode cX10_wordOf 37 = .ok (.if_icmp .ne 6, 3) := by decide +kernel
theorem dX10_wordOf_40 : decode cX10_wordOf 40 = .ok (.goto 87, 3) := by decide +kernel
theorem dX10_wordOf_43 : decode cX10_wordOf 43 = .ok (.aload_n 0, 1) := by decide +kernel
theorem dX10_wordOf_44 : decode cX10_wordOf 44 = .ok (.iload 6, 2) := by decide +kernel
theorem dX10_wordOf_46 : decode cX10_wordOf 46 = .ok (.iload_n 1, 1) := by decide +kernel
theorem dX10_wordOf_47 : decode cX10_wordOf 47 = .ok (.iload_n 3, 1) := by decide +kernel
theorem dX10_wordOf_48 : decode cX10_wordOf 48 = .ok (.iconst 1, 1) := by decide +kernel
theorem dX10_wordOf_49 : decode cX10_wordOf 49 = .ok (.iadd, 1) := by decide +kernel
theorem dX10_wordOf_50 : decode cX10_wordOf 50 = .ok (.invokevirtual 114, 3) := by decide +kernel
theorem dX10_wordOf_53 : decode cX10_wordOf 53 = .ok (.istore 7, 2) := by decide +kernel
theorem dX10_wordOf_55 : decode cX10_wordOf 55 = .ok (.iload 5, 2) := by decide +kernel
theorem dX10_wordOf_57 : decode cX10_wordOf 57 = .ok (.istore 8, 2) := by decide +kernel
theorem dX10_wordOf_59 : decode cX10_wordOf 59 = .ok (.iload 8, 2) := by decide +kernel
theorem dX10_wordOf_61 : decode cX10_wordOf 61 = .ok (.ifCond .le 51, 3) := by decide +kernel
theorem dX10_wordOf_64 : decode cX10_wordOf 64 = .ok (.iload 7, 2) := by decide +kernel
theorem dX10_wordOf_66 : decode cX10_wordOf 66 = .ok (.aload_n 0, 1) := by decide +kernel
theorem dX10_wordOf_67 : decode cX10_wordOf 67 = .ok (.getfield 38, 3) := by decide +kernel
theorem dX10_wordOf_70 : decode cX10_wordOf 70 = .ok (.iload 4, 2) := by decide +kernel
theorem dX10_wordOf_72 : decode cX10_wordOf 72 = .ok (.iload 8, 2) := by decide +kernel
theorem dX10_wordOf_74 : decode cX10_wordOf 74 = .ok (.iadd, 1) := by decide +kernel
theorem dX10_wordOf_75 : decode cX10_wordOf 75 = .ok (.iconst 1, 1) := by decide +kernel
theorem dX10_wordOf_76 : decode cX10_wordOf 76 = .ok (.isub, 1) := by decide +kernel
theorem dX10_wordOf_77 : decode cX10_wordOf 77 = .ok (.iaload, 1) := by decide +kernel
theorem dX10_wordOf_78 : decode cX10_wordOf 78 = .ok (.invokestatic 118, 3) := by decide +kernel
theorem dX10_wordOf_81 : decode cX10_wordOf 81 = .ok (.ifCond .eq 31, 3) := by decide +kernel
theorem dX10_wordOf_84 : decode cX10_wordOf 84 = .ok (.aload_n 0, 1) := by decide +kernel
theorem dX10_wordOf_85 : decode cX10_wordOf 85 = .ok (.getfield 38, 3) := by decide +kernel
theorem dX10_wordOf_88 : decode cX10_wordOf 88 = .ok (.iload 4, 2) := by decide +kernel
theorem dX10_wordOf_90 : decode cX10_wordOf 90 = .ok (.iload 8, 2) := by decide +kernel
theorem dX10_wordOf_92 : decode cX10_wordOf 92 = .ok (.iadd, 1) := by decide +kernel
theorem dX10_wordOf_93 : decode cX10_wordOf 93 = .ok (.aload_n 0, 1) := by decide +kernel
theorem dX10_wordOf_94 : decode cX10_wordOf 94 = .ok (.getfield 38, 3) := by decide +kernel
theorem dX10_wordOf_97 : decode cX10_wordOf 97 = .ok (.iload 4, 2) := by decide +kernel
theorem dX10_wordOf_99 : decode cX10_wordOf 99 = .ok (.iload 8, 2) := by decide +kernel
theorem dX10_wordOf_101 : decode cX10_wordOf 101 = .ok (.iadd, 1) := by decide +kernel
theorem dX10_wordOf_102 : decode cX10_wordOf 102 = .ok (.iconst 1, 1) := by decide +kernel
theorem dX10_wordOf_103 : decode cX10_wordOf 103 = .ok (.isub, 1) := by decide +kernel
theorem dX10_wordOf_104 : decode cX10_wordOf 104 = .ok (.iaload, 1) := by decide +kernel
theorem dX10_wordOf_105 : decode cX10_wordOf 105 = .ok (.iastore, 1) := by decide +kernel
theorem dX10_wordOf_106 : decode cX10_wordOf 106 = .ok (.iinc 8 (-1), 3) := by decide +kernel
theorem dX10_wordOf_109 : decode cX10_wordOf 109 = .ok (.goto (-50), 3) := by decide +kernel
theorem dX10_wordOf_112 : decode cX10_wordOf 112 = .ok (.aload_n 0, 1) := by decide +kernel
theorem dX10_wordOf_113 : decode cX10_wordOf 113 = .ok (.getfield 38, 3) := by decide +kernel
theorem dX10_wordOf_116 : decode cX10_wordOf 116 = .ok (.iload 4, 2) := by decide +kernel
theorem dX10_wordOf_118 : decode cX10_wordOf 118 = .ok (.iload 8, 2) := by decide +kernel
theorem dX10_wordOf_120 : decode cX10_wordOf 120 = .ok (.iadd, 1) := by decide +kernel
theorem dX10_wordOf_121 : decode cX10_wordOf 121 = .ok (.iload 7, 2) := by decide +kernel
theorem dX10_wordOf_123 : decode cX10_wordOf 123 = .ok (.iastore, 1) := by decide +kernel
theorem dX10_wordOf_124 : decode cX10_wordOf 124 = .ok (.iinc 5 1, 3) := by decide +kernel
theorem dX10_wordOf_127 : decode cX10_wordOf 127 = .ok (.iinc 6 1, 3) := by decide +kernel
theorem dX10_wordOf_130 : decode cX10_wordOf 130 = .ok (.goto (-118), 3) := by decide +kernel
theorem dX10_wordOf_133 : decode cX10_wordOf 133 = .ok (.iconst 0, 1) := by decide +kernel
theorem dX10_wordOf_134 : decode cX10_wordOf 134 = .ok (.istore 6, 2) := by decide +kernel
theorem dX10_wordOf_136 : decode cX10_wordOf 136 = .ok (.iconst 0, 1) := by decide +kernel
theorem dX10_wordOf_137 : decode cX10_wordOf 137 = .ok (.istore 7, 2) := by decide +kernel
theorem dX10_wordOf_139 : decode cX10_wordOf 139 = .ok (.iload 7, 2) := by decide +kernel
theorem dX10_wordOf_141 : decode cX10_wordOf 141 = .ok (.iload 5, 2) := by decide +kernel
theorem dX10_wordOf_143 : decode cX10_wordOf 143 = .ok (.if_icmp .ge 40, 3) := by decide +kernel
theorem dX10_wordOf_146 : decode cX10_wordOf 146 = .ok (.iload 6, 2) := by decide +kernel
theorem dX10_wordOf_148 : decode cX10_wordOf 148 = .ok (.iconst 2, 1) := by decide +kernel
theorem dX10_wordOf_149 : decode cX10_wordOf 149 = .ok (.aload_n 0, 1) := by decide +kernel
theorem dX10_wordOf_150 : decode cX10_wordOf 150 = .ok (.getfield 38, 3) := by decide +kernel
theorem dX10_wordOf_153 : decode cX10_wordOf 153 = .ok (.iload 4, 2) := by decide +kernel
theorem dX10_wordOf_155 : decode cX10_wordOf 155 = .ok (.iload 7, 2) := by decide +kernel
theorem dX10_wordOf_157 : decode cX10_wordOf 157 = .ok (.iadd, 1) := by decide +kernel
theorem dX10_wordOf_158 : decode cX10_wordOf 158 = .ok (.iaload, 1) := by decide +kernel
theorem dX10_wordOf_159 : decode cX10_wordOf 159 = .ok (.invokestatic 111, 3) := by decide +kernel
theorem dX10_wordOf_162 : decode cX10_wordOf 162 = .ok (.imul, 1) := by decide +kernel
theorem dX10_wordOf_163 : decode cX10_wordOf 163 = .ok (.ishl, 1) := by decide +kernel
theorem dX10_wordOf_164 : decode cX10_wordOf 164 = .ok (.aload_n 0, 1) := by decide +kernel
theorem dX10_wordOf_165 : decode cX10_wordOf 165 = .ok (.getfield 38, 3) := by decide +kernel
theorem dX10_wordOf_168 : decode cX10_wordOf 168 = .ok (.iload 4, 2) := by decide +kernel
theorem dX10_wordOf_170 : decode cX10_wordOf 170 = .ok (.iload 7, 2) := by decide +kernel
theorem dX10_wordOf_172 : decode cX10_wordOf 172 = .ok (.iadd, 1) := by decide +kernel
theorem dX10_wordOf_173 : decode cX10_wordOf 173 = .ok (.iaload, 1) := by decide +kernel
theorem dX10_wordOf_174 : decode cX10_wordOf 174 = .ok (.ior, 1) := by decide +kernel
theorem dX10_wordOf_175 : decode cX10_wordOf 175 = .ok (.istore 6, 2) := by decide +kernel
theorem dX10_wordOf_177 : decode cX10_wordOf 177 = .ok (.iinc 7 1, 3) := by decide +kernel
theorem dX10_wordOf_180 : decode cX10_wordOf 180 = .ok (.goto (-41), 3) := by decide +kernel
theorem dX10_wordOf_183 : decode cX10_wordOf 183 = .ok (.iload 6, 2) := by decide +kernel
theorem dX10_wordOf_185 : decode cX10_wordOf 185 = .ok (.iconst 1, 1) := by decide +kernel
theorem dX10_wordOf_186 : decode cX10_wordOf 186 = .ok (.ishl, 1) := by decide +kernel
theorem dX10_wordOf_187 : decode cX10_wordOf 187 = .ok (.iconst 1, 1) := by decide +kernel
theorem dX10_wordOf_188 : decode cX10_wordOf 188 = .ok (.ior, 1) := by decide +kernel
theorem dX10_wordOf_189 : decode cX10_wordOf 189 = .ok (.ireturn, 1) := by decide +kernel
theorem dX10_rootWord_0 : decode cX10_rootWord 0 = .ok (.aload_n 0, 1) := by decide +kernel
theorem dX10_rootWord_1 : decode cX10_rootWord 1 = .ok (.iload_n 1, 1) := by decide +kernel
theorem dX10_rootWord_2 : decode cX10_rootWord 2 = .ok (.iconst (-1), 1) := by decide +kernel
theorem dX10_rootWord_3 : decode cX10_rootWord 3 = .ok (.iconst 0, 1) := by decide +kernel
theorem dX10_rootWord_4 : decode cX10_rootWord 4 = .ok (.invokevirtual 114, 3) := by decide +kernel
theorem dX10_rootWord_7 : decode cX10_rootWord 7 = .ok (.ireturn, 1) := by decide +kernel
theorem dX10_wordOfSet_0 : decode cX10_wordOfSet 0 = .ok (.aload_n 0, 1) := by decide +kernel
theorem dX10_wordOfSet_1 : decode cX10_wordOfSet 1 = .ok (.iload_n 1, 1) := by decide +kernel
theorem dX10_wordOfSet_2 : decode cX10_wordOfSet 2 = .ok (.iconst 1, 1) := by decide +kernel
theorem dX10_wordOfSet_3 : decode cX10_wordOfSet 3 = .ok (.invokevirtual 121, 3) := by decide +kernel
theorem dX10_wordOfSet_6 : decode cX10_wordOfSet 6 = .ok (.istore_n 2, 1) := by decide +kernel
theorem dX10_wordOfSet_7 : decode cX10_wordOfSet 7 = .ok (.iconst 0, 1) := by decide +kernel
theorem dX10_wordOfSet_8 : decode cX10_wordOfSet 8 = .ok (.istore_n 3, 1) := by decide +kernel
theorem dX10_wordOfSet_9 : decode cX10_wordOfSet 9 = .ok (.iconst 0, 1) := by decide +kernel
theorem dX10_wordOfSet_10 : decode cX10_wordOfSet 10 = .ok (.istore 4, 2) := by decide +kernel
theorem dX10_wordOfSet_12 : decode cX10_wordOfSet 12 = .ok (.iload 4, 2) := by decide +kernel
theorem dX10_wordOfSet_14 : decode cX10_wordOfSet 14 = .ok (.aload_n 0, 1) := by decide +kernel
theorem dX10_wordOfSet_15 : decode cX10_wordOfSet 15 = .ok (.invokevirtual 66, 3) := by decide +kernel
theorem dX10_wordOfSet_18 : decode cX10_wordOfSet 18 = .ok (.if_icmp .ge 49, 3) := by decide +kernel
theorem dX10_wordOfSet_21 : decode cX10_wordOfSet 21 = .ok (.iload_n 2, 1) := by decide +kernel
theorem dX10_wordOfSet_22 : decode cX10_wordOfSet 22 = .ok (.iload 4, 2) := by decide +kernel
theorem dX10_wordOfSet_24 : decode cX10_wordOfSet 24 = .ok (.invokestatic 70, 3) := by decide +kernel
theorem dX10_wordOfSet_27 : decode cX10_wordOfSet 27 = .ok (.ifCond .ne 6, 3) := by decide +kernel
theorem dX10_wordOfSet_30 : decode cX10_wordOfSet 30 = .ok (.goto 31, 3) := by decide +kernel
theorem dX10_wordOfSet_33 : decode cX10_wordOfSet 33 = .ok (.aload_n 0, 1) := by decide +kernel
theorem dX10_wordOfSet_34 : decode cX10_wordOfSet 34 = .ok (.iload 4, 2) := by decide +kernel
theorem dX10_wordOfSet_36 : decode cX10_wordOfSet 36 = .ok (.invokevirtual 124, 3) := by decide +kernel
theorem dX10_wordOfSet_39 : decode cX10_wordOfSet 39 = .ok (.istore 5, 2) := by decide +kernel
theorem dX10_wordOfSet_41 : decode cX10_wordOfSet 41 = .ok (.iload_n 3, 1) := by decide +kernel
theorem dX10_wordOfSet_42 : decode cX10_wordOfSet 42 = .ok (.ifCond .eq 12, 3) := by decide +kernel
theorem dX10_wordOfSet_45 : decode cX10_wordOfSet 45 = .ok (.iload 5, 2) := by decide +kernel
theorem dX10_wordOfSet_47 : decode cX10_wordOfSet 47 = .ok (.iload_n 3, 1) := by decide +kernel
theorem dX10_wordOfSet_48 : decode cX10_wordOfSet 48 = .ok (.invokestatic 118, 3) := by decide +kernel
theorem dX10_wordOfSet_51 : decode cX10_wordOfSet 51 = .ok (.ifCond .eq 8, 3) := by decide +kernel
theorem dX10_wordOfSet_54 : decode cX10_wordOfSet 54 = .ok (.iload 5, 2) := by decide +kernel
theorem dX10_wordOfSet_56 : decode cX10_wordOfSet 56 = .ok (.goto 4, 3) := by decide +kernel
theorem dX10_wordOfSet_59 : decode cX10_wordOfSet 59 = .ok (.iload_n 3, 1) := by decide +kernel
theorem dX10_wordOfSet_60 : decode cX10_wordOfSet 60 = .ok (.istore_n 3, 1) := by decide +kernel
theorem dX10_wordOfSet_61 : decode cX10_wordOfSet 61 = .ok (.iinc 4 1, 3) := by decide +kernel
theorem dX10_wordOfSet_64 : decode cX10_wordOfSet 64 = .ok (.goto (-52), 3) := by decide +kernel
theorem dX10_wordOfSet_67 : decode cX10_wordOfSet 67 = .ok (.iload_n 3, 1) := by decide +kernel
theorem dX10_wordOfSet_68 : decode cX10_wordOfSet 68 = .ok (.ireturn, 1) := by decide +kernel
theorem dX10_orbit_0 : decode cX10_orbit 0 = .ok (.aload_n 0, 1) := by decide +kernel
theorem dX10_orbit_1 : decode cX10_orbit 1 = .ok (.iload_n 1, 1) := by decide +kernel
theorem dX10_orbit_2 : decode cX10_orbit 2 = .ok (.invokevirtual 84, 3) := by decide +kernel
theorem dX10_orbit_5 : decode cX10_orbit 5 = .ok (.istore_n 2, 1) := by decide +kernel
theorem dX10_orbit_6 : decode cX10_orbit 6 = .ok (.aload_n 0, 1) := by decide +kernel
theorem dX10_orbit_7 : decode cX10_orbit 7 = .ok (.iload_n 1, 1) := by decide +kernel
theorem dX10_orbit_8 : decode cX10_orbit 8 = .ok (.invokevirtual 124, 3) := by decide +kernel
theorem dX10_orbit_11 : decode cX10_orbit 11 = .ok (.istore_n 3, 1) := by decide +kernel
theorem dX10_orbit_12 : decode cX10_orbit 12 = .ok (.iconst 0, 1) := by decide +kernel
theorem dX10_orbit_13 : decode cX10_orbit 13 = .ok (.istore 4, 2) := by decide +kernel
theorem dX10_orbit_15 : decode cX10_orbit 15 = .ok (.iconst 0, 1) := by decide +kernel
theorem dX10_orbit_16 : decode cX10_orbit 16 = .ok (.istore 5, 2) := by decide +kernel
theorem dX10_orbit_18 : decode cX10_orbit 18 = .ok (.iload 5, 2) := by decide +kernel
theorem dX10_orbit_20 : decode cX10_orbit 20 = .ok (.aload_n 0, 1) := by decide +kernel
theorem dX10_orbit_21 : decode cX10_orbit 21 = .ok (.invokevirtual 66, 3) := by decide +kernel
theorem dX10_orbit_24 : decode cX10_orbit 24 = .ok (.if_icmp .ge 37, 3) := by decide +kernel
theorem dX10_orbit_27 : decode cX10_orbit 27 = .ok (.iload_n 2, 1) := by decide +kernel
theorem dX10_orbit_28 : decode cX10_orbit 28 = .ok (.iload 5, 2) := by decide +kernel
theorem dX10_orbit_30 : decode cX10_orbit 30 = .ok (.invokestatic 70, 3) := by decide +kernel
theorem dX10_orbit_33 : decode cX10_orbit 33 = .ok (.ifCond .eq 22, 3) := by decide +kernel
theorem dX10_orbit_36 : decode cX10_orbit 36 = .ok (.aload_n 0, 1) := by decide +kernel
theorem dX10_orbit_37 : decode cX10_orbit 37 = .ok (.iload 5, 2) := by decide +kernel
theorem dX10_orbit_39 : decode cX10_orbit 39 = .ok (.invokevirtual 124, 3) := by decide +kernel
theorem dX10_orbit_42 : decode cX10_orbit 42 = .ok (.iload_n 3, 1) := by decide +kernel
theorem dX10_orbit_43 : decode cX10_orbit 43 = .ok (.if_icmp .ne 12, 3) := by decide +kernel
theorem dX10_orbit_46 : decode cX10_orbit 46 = .ok (.iload 4, 2) := by decide +kernel
theorem dX10_orbit_48 : decode cX10_orbit 48 = .ok (.iconst 1, 1) := by decide +kernel
theorem dX10_orbit_49 : decode cX10_orbit 49 = .ok (.iload 5, 2) := by decide +kernel
theorem dX10_orbit_51 : decode cX10_orbit 51 = .ok (.ishl, 1) := by decide +kernel
theorem dX10_orbit_52 : decode cX10_orbit 52 = .ok (.ior, 1) := by decide +kernel
theorem dX10_orbit_53 : decode cX10_orbit 53 = .ok (.istore 4, 2) := by decide +kernel
theorem dX10_orbit_55 : decode cX10_orbit 55 = .ok (.iinc 5 1, 3) := by decide +kernel
theorem dX10_orbit_58 : decode cX10_orbit 58 = .ok (.goto (-40), 3) := by decide +kernel
theorem dX10_orbit_61 : decode cX10_orbit 61 = .ok (.iload 4, 2) := by decide +kernel
theorem dX10_orbit_63 : decode cX10_orbit 63 = .ok (.ireturn, 1) := by decide +kernel
theorem dX10_turns_0 : decode cX10_turns 0 = .ok (.iconst 1, 1) := by decide +kernel
theorem dX10_turns_1 : decode cX10_turns 1 = .ok (.istore_n 3, 1) := by decide +kernel
theorem dX10_turns_2 : decode cX10_turns 2 = .ok (.iconst 0, 1) := by decide +kernel
theorem dX10_turns_3 : decode cX10_turns 3 = .ok (.istore 4, 2) := by decide +kernel
theorem dX10_turns_5 : decode cX10_turns 5 = .ok (.iload 4, 2) := by decide +kernel
theorem dX10_turns_7 : decode cX10_turns 7 = .ok (.aload_n 0, 1) := by decide +kernel
theorem dX10_turns_8 : decode cX10_turns 8 = .ok (.invokevirtual 66, 3) := by decide +kernel
theorem dX10_turns_11 : decode cX10_turns 11 = .ok (.if_icmp .ge 115, 3) := by decide +kernel
theorem dX10_turns_14 : decode cX10_turns 14 = .ok (.aload_n 0, 1) := by decide +kernel
theorem dX10_turns_15 : decode cX10_turns 15 = .ok (.iload_n 1, 1) := by decide +kernel
theorem dX10_turns_16 : decode cX10_turns 16 = .ok (.invokevirtual 74, 3) := by decide +kernel
theorem dX10_turns_19 : decode cX10_turns 19 = .ok (.iload 4, 2) := by decide +kernel
theorem dX10_turns_21 : decode cX10_turns 21 = .ok (.invokestatic 70, 3) := by decide +kernel
theorem dX10_turns_24 : decode cX10_turns 24 = .ok (.ifCond .eq 96, 3) := by decide +kernel
theorem dX10_turns_27 : decode cX10_turns 27 = .ok (.iload 4, 2) := by decide +kernel
theorem dX10_turns_29 : decode cX10_turns 29 = .ok (.iload_n 2, 1) := by decide +kernel
theorem dX10_turns_30 : decode cX10_turns 30 = .ok (.if_icmp .ne 6, 3) := by decide +kernel
theorem dX10_turns_33 : decode cX10_turns 33 = .ok (.goto 87, 3) := by decide +kernel
theorem dX10_turns_36 : decode cX10_turns 36 = .ok (.aload_n 0, 1) := by decide +kernel
theorem dX10_turns_37 : decode cX10_turns 37 = .ok (.iload 4, 2) := by decide +kernel
theorem dX10_turns_39 : decode cX10_turns 39 = .ok (.iload_n 1, 1) := by decide +kernel
theorem dX10_turns_40 : decode cX10_turns 40 = .ok (.iconst 0, 1) := by decide +kernel
theorem dX10_turns_41 : decode cX10_turns 41 = .ok (.invokevirtual 114, 3) := by decide +kernel
theorem dX10_turns_44 : decode cX10_turns 44 = .ok (.istore 5, 2) := by decide +kernel
theorem dX10_turns_46 : decode cX10_turns 46 = .ok (.iconst 1, 1) := by decide +kernel
theorem dX10_turns_47 : decode cX10_turns 47 = .ok (.istore 6, 2) := by decide +kernel
theorem dX10_turns_49 : decode cX10_turns 49 = .ok (.iconst 0, 1) := by decide +kernel
theorem dX10_turns_50 : decode cX10_turns 50 = .ok (.istore 7, 2) := by decide +kernel
theorem dX10_turns_52 : decode cX10_turns 52 = .ok (.iload 7, 2) := by decide +kernel
theorem dX10_turns_54 : decode cX10_turns 54 = .ok (.iload 4, 2) := by decide +kernel
theorem dX10_turns_56 : decode cX10_turns 56 = .ok (.if_icmp .ge 51, 3) := by decide +kernel
theorem dX10_turns_59 : decode cX10_turns 59 = .ok (.iload 6, 2) := by decide +kernel
theorem dX10_turns_61 : decode cX10_turns 61 = .ok (.aload_n 0, 1) := by decide +kernel
theorem dX10_turns_62 : decode cX10_turns 62 = .ok (.iload_n 1, 1) := by decide +kernel
theorem dX10_turns_63 : decode cX10_turns 63 = .ok (.invokevirtual 74, 3) := by decide +kernel
theorem dX10_turns_66 : decode cX10_turns 66 = .ok (.iload 7, 2) := by decide +kernel
theorem dX10_turns_68 : decode cX10_turns 68 = .ok (.invokestatic 70, 3) := by decide +kernel
theorem dX10_turns_71 : decode cX10_turns 71 = .ok (.ifCond .eq 26, 3) := by decide +kernel
theorem dX10_turns_74 : decode cX10_turns 74 = .ok (.iload 7, 2) := by decide +kernel
theorem dX10_turns_76 : decode cX10_turns 76 = .ok (.iload_n 2, 1) := by decide +kernel
theorem dX10_turns_77 : decode cX10_turns 77 = .ok (.if_icmp .eq 20, 3) := by decide +kernel
theorem dX10_turns_80 : decode cX10_turns 80 = .ok (.aload_n 0, 1) := by decide +kernel
theorem dX10_turns_81 : decode cX10_turns 81 = .ok (.iload 7, 2) := by decide +kernel
theorem dX10_turns_83 : decode cX10_turns 83 = .ok (.iload_n 1, 1) := by decide +kernel
theorem dX10_turns_84 : decode cX10_turns 84 = .ok (.iconst 0, 1) := by decide +kernel
theorem dX10_turns_85 : decode cX10_turns 85 = .ok (.invokevirtual 114, 3) := by decide +kernel
theorem dX10_turns_88 : decode cX10_turns 88 = .ok (.iload 5, 2) := by decide +kernel
theorem dX10_turns_90 : decode cX10_turns 90 = .ok (.if_icmp .ne 7, 3) := by decide +kernel
theorem dX10_turns_93 : decode cX10_turns 93 = .ok (.iconst 1, 1) := by decide +kernel
theorem dX10_turns_94 : decode cX10_turns 94 = .ok (.goto 4, 3) := by decide +kernel
theorem dX10_turns_97 : decode cX10_turns 97 = .ok (.iconst 0, 1) := by decide +kernel
theorem dX10_turns_98 : decode cX10_turns 98 = .ok (.iadd, 1) := by decide +kernel
theorem dX10_turns_99 : decode cX10_turns 99 = .ok (.istore 6, 2) := by decide +kernel
theorem dX10_turns_101 : decode cX10_turns 101 = .ok (.iinc 7 1, 3) := by decide +kernel
theorem dX10_turns_104 : decode cX10_turns 104 = .ok (.goto (-52), 3) := by decide +kernel
theorem dX10_turns_107 : decode cX10_turns 107 = .ok (.iload_n 3, 1) := by decide +kernel
theorem dX10_turns_108 : decode cX10_turns 108 = .ok (.iload 6, 2) := by decide +kernel
theorem dX10_turns_110 : decode cX10_turns 110 = .ok (.aload_n 0, 1) := by decide +kernel
theorem dX10_turns_111 : decode cX10_turns 111 = .ok (.iload 4, 2) := by decide +kernel
theorem dX10_turns_113 : decode cX10_turns 113 = .ok (.iload_n 1, 1) := by decide +kernel
theorem dX10_turns_114 : decode cX10_turns 114 = .ok (.invokevirtual 127, 3) := by decide +kernel
theorem dX10_turns_117 : decode cX10_turns 117 = .ok (.imul, 1) := by decide +kernel
theorem dX10_turns_118 : decode cX10_turns 118 = .ok (.imul, 1) := by decide +kernel
theorem dX10_turns_119 : decode cX10_turns 119 = .ok (.istore_n 3, 1) := by decide +kernel
theorem dX10_turns_120 : decode cX10_turns 120 = .ok (.iinc 4 1, 3) := by decide +kernel
theorem dX10_turns_123 : decode cX10_turns 123 = .ok (.goto (-118), 3) := by decide +kernel
theorem dX10_turns_126 : decode cX10_turns 126 = .ok (.iload_n 3, 1) := by decide +kernel
theorem dX10_turns_127 : decode cX10_turns 127 = .ok (.ireturn, 1) := by decide +kernel
theorem dX10_symmetriesOf_0 : decode cX10_symmetriesOf 0 = .ok (.iload_n 1, 1) := by decide +kernel
theorem dX10_symmetriesOf_1 : decode cX10_symmetriesOf 1 = .ok (.invokestatic 87, 3) := by decide +kernel
theorem dX10_symmetriesOf_4 : decode cX10_symmetriesOf 4 = .ok (.istore_n 2, 1) := by decide +kernel
theorem dX10_symmetriesOf_5 : decode cX10_symmetriesOf 5 = .ok (.aload_n 0, 1) := by decide +kernel
theorem dX10_symmetriesOf_6 : decode cX10_symmetriesOf 6 = .ok (.iload_n 2, 1) := by decide +kernel
theorem dX10_symmetriesOf_7 : decode cX10_symmetriesOf 7 = .ok (.invokevirtual 130, 3) := by decide +kernel
theorem dX10_symmetriesOf_10 : decode cX10_symmetriesOf 10 = .ok (.invokestatic 111, 3) := by decide +kernel
theorem dX10_symmetriesOf_13 : decode cX10_symmetriesOf 13 = .ok (.aload_n 0, 1) := by decide +kernel
theorem dX10_symmetriesOf_14 : decode cX10_symmetriesOf 14 = .ok (.iload_n 2, 1) := by decide +kernel
theorem dX10_symmetriesOf_15 : decode cX10_symmetriesOf 15 = .ok (.iconst (-1), 1) := by decide +kernel
theorem dX10_symmetriesOf_16 : decode cX10_symmetriesOf 16 = .ok (.invokevirtual 127, 3) := by decide +kernel
theorem dX10_symmetriesOf_19 : decode cX10_symmetriesOf 19 = .ok (.imul, 1) := by decide +kernel
theorem dX10_symmetriesOf_20 : decode cX10_symmetriesOf 20 = .ok (.ireturn, 1) := by decide +kernel
theorem dX10_classAt_0 : decode cX10_classAt 0 = .ok (.aload_n 0, 1) := by decide +kernel
theorem dX10_classAt_1 : decode cX10_classAt 1 = .ok (.aload_n 0, 1) := by decide +kernel
theorem dX10_classAt_2 : decode cX10_classAt 2 = .ok (.iload_n 1, 1) := by decide +kernel
theorem dX10_classAt_3 : decode cX10_classAt 3 = .ok (.invokevirtual 133, 3) := by decide +kernel
theorem dX10_classAt_6 : decode cX10_classAt 6 = .ok (.invokevirtual 136, 3) := by decide +kernel
theorem dX10_classAt_9 : decode cX10_classAt 9 = .ok (.istore_n 2, 1) := by decide +kernel
theorem dX10_classAt_10 : decode cX10_classAt 10 = .ok (.iconst 0, 1) := by decide +kernel
theorem dX10_classAt_11 : decode cX10_classAt 11 = .ok (.istore_n 3, 1) := by decide +kernel
theorem dX10_classAt_12 : decode cX10_classAt 12 = .ok (.iconst 0, 1) := by decide +kernel
theorem dX10_classAt_13 : decode cX10_classAt 13 = .ok (.istore 4, 2) := by decide +kernel
theorem dX10_classAt_15 : decode cX10_classAt 15 = .ok (.iload 4, 2) := by decide +kernel
theorem dX10_classAt_17 : decode cX10_classAt 17 = .ok (.iload_n 1, 1) := by decide +kernel
theorem dX10_classAt_18 : decode cX10_classAt 18 = .ok (.if_icmp .ge 51, 3) := by decide +kernel
theorem dX10_classAt_21 : decode cX10_classAt 21 = .ok (.aload_n 0, 1) := by decide +kernel
theorem dX10_classAt_22 : decode cX10_classAt 22 = .ok (.aload_n 0, 1) := by decide +kernel
theorem dX10_classAt_23 : decode cX10_classAt 23 = .ok (.iload 4, 2) := by decide +kernel
theorem dX10_classAt_25 : decode cX10_classAt 25 = .ok (.invokevirtual 133, 3) := by decide +kernel
theorem dX10_classAt_28 : decode cX10_classAt 28 = .ok (.invokevirtual 136, 3) := by decide +kernel
theorem dX10_classAt_31 : decode cX10_classAt 31 = .ok (.istore 5, 2) := by decide +kernel
theorem dX10_classAt_33 : decode cX10_classAt 33 = .ok (.iload 5, 2) := by decide +kernel
theorem dX10_classAt_35 : decode cX10_classAt 35 = .ok (.iload_n 2, 1) := by decide +kernel
theorem dX10_classAt_36 : decode cX10_classAt 36 = .ok (.if_icmp .ne 10, 3) := by decide +kernel
theorem dX10_classAt_39 : decode cX10_classAt 39 = .ok (.aload_n 0, 1) := by decide +kernel
theorem dX10_classAt_40 : decode cX10_classAt 40 = .ok (.iload 4, 2) := by decide +kernel
theorem dX10_classAt_42 : decode cX10_classAt 42 = .ok (.invokevirtual 139, 3) := by decide +kernel
theorem dX10_classAt_45 : decode cX10_classAt 45 = .ok (.ireturn, 1) := by decide +kernel
theorem dX10_classAt_46 : decode cX10_classAt 46 = .ok (.iload_n 3, 1) := by decide +kernel
theorem dX10_classAt_47 : decode cX10_classAt 47 = .ok (.aload_n 0, 1) := by decide +kernel
theorem dX10_classAt_48 : decode cX10_classAt 48 = .ok (.iload 4, 2) := by decide +kernel
theorem dX10_classAt_50 : decode cX10_classAt 50 = .ok (.invokevirtual 142, 3) := by decide +kernel
theorem dX10_classAt_53 : decode cX10_classAt 53 = .ok (.ifCond .eq 7, 3) := by decide +kernel
theorem dX10_classAt_56 : decode cX10_classAt 56 = .ok (.iconst 1, 1) := by decide +kernel
theorem dX10_classAt_57 : decode cX10_classAt 57 = .ok (.goto 4, 3) := by decide +kernel
theorem dX10_classAt_60 : decode cX10_classAt 60 = .ok (.iconst 0, 1) := by decide +kernel
theorem dX10_classAt_61 : decode cX10_classAt 61 = .ok (.iadd, 1) := by decide +kernel
theorem dX10_classAt_62 : decode cX10_classAt 62 = .ok (.istore_n 3, 1) := by decide +kernel
theorem dX10_classAt_63 : decode cX10_classAt 63 = .ok (.iinc 4 1, 3) := by decide +kernel
theorem dX10_classAt_66 : decode cX10_classAt 66 = .ok (.goto (-51), 3) := by decide +kernel
theorem dX10_classAt_69 : decode cX10_classAt 69 = .ok (.iload_n 3, 1) := by decide +kernel
theorem dX10_classAt_70 : decode cX10_classAt 70 = .ok (.ireturn, 1) := by decide +kernel
theorem dX10_isNew_0 : decode cX10_isNew 0 = .ok (.aload_n 0, 1) := by decide +kernel
theorem dX10_isNew_1 : decode cX10_isNew 1 = .ok (.aload_n 0, 1) := by decide +kernel
theorem dX10_isNew_2 : decode cX10_isNew 2 = .ok (.iload_n 1, 1) := by decide +kernel
theorem dX10_isNew_3 : decode cX10_isNew 3 = .ok (.invokevirtual 133, 3) := by decide +kernel
theorem dX10_isNew_6 : decode cX10_isNew 6 = .ok (.invokevirtual 136, 3) := by decide +kernel
theorem dX10_isNew_9 : decode cX10_isNew 9 = .ok (.istore_n 2, 1) := by decide +kernel
theorem dX10_isNew_10 : decode cX10_isNew 10 = .ok (.iconst 0, 1) := by decide +kernel
theorem dX10_isNew_11 : decode cX10_isNew 11 = .ok (.istore_n 3, 1) := by decide +kernel
theorem dX10_isNew_12 : decode cX10_isNew 12 = .ok (.iload_n 3, 1) := by decide +kernel
theorem dX10_isNew_13 : decode cX10_isNew 13 = .ok (.iload_n 1, 1) := by decide +kernel
theorem dX10_isNew_14 : decode cX10_isNew 14 = .ok (.if_icmp .ge 24, 3) := by decide +kernel
theorem dX10_isNew_17 : decode cX10_isNew 17 = .ok (.aload_n 0, 1) := by decide +kernel
theorem dX10_isNew_18 : decode cX10_isNew 18 = .ok (.aload_n 0, 1) := by decide +kernel
theorem dX10_isNew_19 : decode cX10_isNew 19 = .ok (.iload_n 3, 1) := by decide +kernel
theorem dX10_isNew_20 : decode cX10_isNew 20 = .ok (.invokevirtual 133, 3) := by decide +kernel
theorem dX10_isNew_23 : decode cX10_isNew 23 = .ok (.invokevirtual 136, 3) := by decide +kernel
theorem dX10_isNew_26 : decode cX10_isNew 26 = .ok (.iload_n 2, 1) := by decide +kernel
theorem dX10_isNew_27 : decode cX10_isNew 27 = .ok (.if_icmp .ne 5, 3) := by decide +kernel
theorem dX10_isNew_30 : decode cX10_isNew 30 = .ok (.iconst 0, 1) := by decide +kernel
theorem dX10_isNew_31 : decode cX10_isNew 31 = .ok (.ireturn, 1) := by decide +kernel
theorem dX10_isNew_32 : decode cX10_isNew 32 = .ok (.iinc 3 1, 3) := by decide +kernel
theorem dX10_isNew_35 : decode cX10_isNew 35 = .ok (.goto (-23), 3) := by decide +kernel
theorem dX10_isNew_38 : decode cX10_isNew 38 = .ok (.iconst 1, 1) := by decide +kernel
theorem dX10_isNew_39 : decode cX10_isNew 39 = .ok (.ireturn, 1) := by decide +kernel
theorem dX10_adds_0 : decode cX10_adds 0 = .ok (.bipush 24, 2) := by decide +kernel
theorem dX10_adds_2 : decode cX10_adds 2 = .ok (.istore_n 2, 1) := by decide +kernel
theorem dX10_adds_3 : decode cX10_adds 3 = .ok (.iload_n 2, 1) := by decide +kernel
theorem dX10_adds_4 : decode cX10_adds 4 = .ok (.ifCond .lt 35, 3) := by decide +kernel
theorem dX10_adds_7 : decode cX10_adds 7 = .ok (.aload_n 0, 1) := by decide +kernel
theorem dX10_adds_8 : decode cX10_adds 8 = .ok (.getfield 41, 3) := by decide +kernel
theorem dX10_adds_11 : decode cX10_adds 11 = .ok (.aload_n 0, 1) := by decide +kernel
theorem dX10_adds_12 : decode cX10_adds 12 = .ok (.getfield 146, 3) := by decide +kernel
theorem dX10_adds_15 : decode cX10_adds 15 = .ok (.iload_n 1, 1) := by decide +kernel
theorem dX10_adds_16 : decode cX10_adds 16 = .ok (.iload_n 2, 1) := by decide +kernel
theorem dX10_adds_17 : decode cX10_adds 17 = .ok (.iushr, 1) := by decide +kernel
theorem dX10_adds_18 : decode cX10_adds 18 = .ok (.sipush 255, 3) := by decide +kernel
theorem dX10_adds_21 : decode cX10_adds 21 = .ok (.iand, 1) := by decide +kernel
theorem dX10_adds_22 : decode cX10_adds 22 = .ok (.iastore, 1) := by decide +kernel
theorem dX10_adds_23 : decode cX10_adds 23 = .ok (.aload_n 0, 1) := by decide +kernel
theorem dX10_adds_24 : decode cX10_adds 24 = .ok (.dup, 1) := by decide +kernel
theorem dX10_adds_25 : decode cX10_adds 25 = .ok (.getfield 146, 3) := by decide +kernel
theorem dX10_adds_28 : decode cX10_adds 28 = .ok (.iconst 1, 1) := by decide +kernel
theorem dX10_adds_29 : decode cX10_adds 29 = .ok (.iadd, 1) := by decide +kernel
theorem dX10_adds_30 : decode cX10_adds 30 = .ok (.putfield 146, 3) := by decide +kernel
theorem dX10_adds_33 : decode cX10_adds 33 = .ok (.iinc 2 (-8), 3) := by decide +kernel
theorem dX10_adds_36 : decode cX10_adds 36 = .ok (.goto (-33), 3) := by decide +kernel
theorem dX10_adds_39 : decode cX10_adds 39 = .ok (.return_, 1) := by decide +kernel
theorem dX10_append_0 : decode cX10_append 0 = .ok (.aload_n 0, 1) := by decide +kernel
theorem dX10_append_1 : decode cX10_append 1 = .ok (.iconst 0, 1) := by decide +kernel
theorem dX10_append_2 : decode cX10_append 2 = .ok (.putfield 1, 3) := by decide +kernel
theorem dX10_append_5 : decode cX10_append 5 = .ok (.aload_n 0, 1) := by decide +kernel
theorem dX10_append_6 : decode cX10_append 6 = .ok (.getfield 146, 3) := by decide +kernel
theorem dX10_append_9 : decode cX10_append 9 = .ok (.bipush 20, 2) := by decide +kernel
theorem dX10_append_11 : decode cX10_append 11 = .ok (.iadd, 1) := by decide +kernel
theorem dX10_append_12 : decode cX10_append 12 = .ok (.sipush 400, 3) := by decide +kernel
theorem dX10_append_15 : decode cX10_append 15 = .ok (.if_icmp .le 5, 3) := by decide +kernel
theorem dX10_append_18 : decode cX10_append 18 = .ok (.iconst (-1), 1) := by decide +kernel
theorem dX10_append_19 : decode cX10_append 19 = .ok (.ireturn, 1) := by decide +kernel
theorem dX10_append_20 : decode cX10_append 20 = .ok (.aload_n 0, 1) := by decide +kernel
theorem dX10_append_21 : decode cX10_append 21 = .ok (.iload_n 1, 1) := by decide +kernel
theorem dX10_append_22 : decode cX10_append 22 = .ok (.invokevirtual 149, 3) := by decide +kernel
theorem dX10_append_25 : decode cX10_append 25 = .ok (.aload_n 0, 1) := by decide +kernel
theorem dX10_append_26 : decode cX10_append 26 = .ok (.iload_n 2, 1) := by decide +kernel
theorem dX10_append_27 : decode cX10_append 27 = .ok (.invokevirtual 149, 3) := by decide +kernel
theorem dX10_append_30 : decode cX10_append 30 = .ok (.aload_n 0, 1) := by decide +kernel
theorem dX10_append_31 : decode cX10_append 31 = .ok (.iload_n 3, 1) := by decide +kernel
theorem dX10_append_32 : decode cX10_append 32 = .ok (.invokevirtual 149, 3) := by decide +kernel
theorem dX10_append_35 : decode cX10_append 35 = .ok (.aload_n 0, 1) := by decide +kernel
theorem dX10_append_36 : decode cX10_append 36 = .ok (.iload 4, 2) := by decide +kernel
theorem dX10_append_38 : decode cX10_append 38 = .ok (.invokevirtual 149, 3) := by decide +kernel
theorem dX10_append_41 : decode cX10_append 41 = .ok (.aload_n 0, 1) := by decide +kernel
theorem dX10_append_42 : decode cX10_append 42 = .ok (.iload 5, 2) := by decide +kernel
theorem dX10_append_44 : decode cX10_append 44 = .ok (.invokevirtual 149, 3) := by decide +kernel
theorem dX10_append_47 : decode cX10_append 47 = .ok (.aload_n 0, 1) := by decide +kernel
theorem dX10_append_48 : decode cX10_append 48 = .ok (.getfield 146, 3) := by decide +kernel
theorem dX10_append_51 : decode cX10_append 51 = .ok (.ireturn, 1) := by decide +kernel
theorem dX10_truncate_0 : decode cX10_truncate 0 = .ok (.aload_n 0, 1) := by decide +kernel
theorem dX10_truncate_1 : decode cX10_truncate 1 = .ok (.iconst 0, 1) := by decide +kernel
theorem dX10_truncate_2 : decode cX10_truncate 2 = .ok (.putfield 1, 3) := by decide +kernel
theorem dX10_truncate_5 : decode cX10_truncate 5 = .ok (.iload_n 1, 1) := by decide +kernel
theorem dX10_truncate_6 : decode cX10_truncate 6 = .ok (.iconst 0, 1) := by decide +kernel
theorem dX10_truncate_7 : decode cX10_truncate 7 = .ok (.aload_n 0, 1) := by decide +kernel
theorem dX10_truncate_8 : decode cX10_truncate 8 = .ok (.getfield 146, 3) := by decide +kernel
theorem dX10_truncate_11 : decode cX10_truncate 11 = .ok (.invokestatic 153, 3) := by decide +kernel
theorem dX10_truncate_14 : decode cX10_truncate 14 = .ok (.ifCond .ne 5, 3) := by decide +kernel
theorem dX10_truncate_17 : decode cX10_truncate 17 = .ok (.iconst 0, 1) := by decide +kernel
theorem dX10_truncate_18 : decode cX10_truncate 18 = .ok (.ireturn, 1) := by decide +kernel
theorem dX10_truncate_19 : decode cX10_truncate 19 = .ok (.aload_n 0, 1) := by decide +kernel
theorem dX10_truncate_20 : decode cX10_truncate 20 = .ok (.iload_n 1, 1) := by decide +kernel
theorem dX10_truncate_21 : decode cX10_truncate 21 = .ok (.putfield 146, 3) := by decide +kernel
theorem dX10_truncate_24 : decode cX10_truncate 24 = .ok (.iconst 1, 1) := by decide +kernel
theorem dX10_truncate_25 : decode cX10_truncate 25 = .ok (.ireturn, 1) := by decide +kernel
theorem dX10_bufferLength_0 : decode cX10_bufferLength 0 = .ok (.aload_n 0, 1) := by decide +kernel
theorem dX10_bufferLength_1 : decode cX10_bufferLength 1 = .ok (.iconst 0, 1) := by decide +kernel
theorem dX10_bufferLength_2 : decode cX10_bufferLength 2 = .ok (.putfield 1, 3) := by decide +kernel
theorem dX10_bufferLength_5 : decode cX10_bufferLength 5 = .ok (.aload_n 0, 1) := by decide +kernel
theorem dX10_bufferLength_6 : decode cX10_bufferLength 6 = .ok (.getfield 146, 3) := by decide +kernel
theorem dX10_bufferLength_9 : decode cX10_bufferLength 9 = .ok (.ireturn, 1) := by decide +kernel
theorem dX10_byteAt_0 : decode cX10_byteAt 0 = .ok (.iload_n 1, 1) := by decide +kernel
theorem dX10_byteAt_1 : decode cX10_byteAt 1 = .ok (.aload_n 0, 1) := by decide +kernel
theorem dX10_byteAt_2 : decode cX10_byteAt 2 = .ok (.getfield 157, 3) := by decide +kernel
theorem dX10_byteAt_5 : decode cX10_byteAt 5 = .ok (.if_icmp .ge 12, 3) := by decide +kernel
theorem dX10_byteAt_8 : decode cX10_byteAt 8 = .ok (.aload_n 0, 1) := by decide +kernel
theorem dX10_byteAt_9 : decode cX10_byteAt 9 = .ok (.getfield 41, 3) := by decide +kernel
theorem dX10_byteAt_12 : decode cX10_byteAt 12 = .ok (.iload_n 1, 1) := by decide +kernel
theorem dX10_byteAt_13 : decode cX10_byteAt 13 = .ok (.iaload, 1) := by decide +kernel
theorem dX10_byteAt_14 : decode cX10_byteAt 14 = .ok (.goto 4, 3) := by decide +kernel
theorem dX10_byteAt_17 : decode cX10_byteAt 17 = .ok (.iconst (-1), 1) := by decide +kernel
theorem dX10_byteAt_18 : decode cX10_byteAt 18 = .ok (.ireturn, 1) := by decide +kernel
theorem dX10_isSmall_0 : decode cX10_isSmall 0 = .ok (.iload_n 0, 1) := by decide +kernel
theorem dX10_isSmall_1 : decode cX10_isSmall 1 = .ok (.bipush 97, 2) := by decide +kernel
theorem dX10_isSmall_3 : decode cX10_isSmall 3 = .ok (.if_icmp .lt 13, 3) := by decide +kernel
theorem dX10_isSmall_6 : decode cX10_isSmall 6 = .ok (.iload_n 0, 1) := by decide +kernel
theorem dX10_isSmall_7 : decode cX10_isSmall 7 = .ok (.bipush 122, 2) := by decide +kernel
theorem dX10_isSmall_9 : decode cX10_isSmall 9 = .ok (.if_icmp .gt 7, 3) := by decide +kernel
theorem dX10_isSmall_12 : decode cX10_isSmall 12 = .ok (.iconst 1, 1) := by decide +kernel
theorem dX10_isSmall_13 : decode cX10_isSmall 13 = .ok (.goto 4, 3) := by decide +kernel
theorem dX10_isSmall_16 : decode cX10_isSmall 16 = .ok (.iconst 0, 1) := by decide +kernel
theorem dX10_isSmall_17 : decode cX10_isSmall 17 = .ok (.ireturn, 1) := by decide +kernel
theorem dX10_isDigit_0 : decode cX10_isDigit 0 = .ok (.iload_n 0, 1) := by decide +kernel
theorem dX10_isDigit_1 : decode cX10_isDigit 1 = .ok (.bipush 48, 2) := by decide +kernel
theorem dX10_isDigit_3 : decode cX10_isDigit 3 = .ok (.if_icmp .lt 13, 3) := by decide +kernel
theorem dX10_isDigit_6 : decode cX10_isDigit 6 = .ok (.iload_n 0, 1) := by decide +kernel
theorem dX10_isDigit_7 : decode cX10_isDigit 7 = .ok (.bipush 57, 2) := by decide +kernel
theorem dX10_isDigit_9 : decode cX10_isDigit 9 = .ok (.if_icmp .gt 7, 3) := by decide +kernel
theorem dX10_isDigit_12 : decode cX10_isDigit 12 = .ok (.iconst 1, 1) := by decide +kernel
theorem dX10_isDigit_13 : decode cX10_isDigit 13 = .ok (.goto 4, 3) := by decide +kernel
theorem dX10_isDigit_16 : decode cX10_isDigit 16 = .ok (.iconst 0, 1) := by decide +kernel
theorem dX10_isDigit_17 : decode cX10_isDigit 17 = .ok (.ireturn, 1) := by decide +kernel
theorem dX10_go_0 : decode cX10_go 0 = .ok (.aload_n 0, 1) := by decide +kernel
theorem dX10_go_1 : decode cX10_go 1 = .ok (.aload_n 0, 1) := by decide +kernel
theorem dX10_go_2 : decode cX10_go 2 = .ok (.getfield 160, 3) := by decide +kernel
theorem dX10_go_5 : decode cX10_go 5 = .ok (.invokevirtual 163, 3) := by decide +kernel
theorem dX10_go_8 : decode cX10_go 8 = .ok (.bipush 32, 2) := by decide +kernel
theorem dX10_go_10 : decode cX10_go 10 = .ok (.if_icmp .eq 16, 3) := by decide +kernel
theorem dX10_go_13 : decode cX10_go 13 = .ok (.aload_n 0, 1) := by decide +kernel
theorem dX10_go_14 : decode cX10_go 14 = .ok (.aload_n 0, 1) := by decide +kernel
theorem dX10_go_15 : decode cX10_go 15 = .ok (.getfield 160, 3) := by decide +kernel
theorem dX10_go_18 : decode cX10_go 18 = .ok (.invokevirtual 163, 3) := by decide +kernel
theorem dX10_go_21 : decode cX10_go 21 = .ok (.bipush 10, 2) := by decide +kernel
theorem dX10_go_23 : decode cX10_go 23 = .ok (.if_icmp .ne 16, 3) := by decide +kernel
theorem dX10_go_26 : decode cX10_go 26 = .ok (.aload_n 0, 1) := by decide +kernel
theorem dX10_go_27 : decode cX10_go 27 = .ok (.dup, 1) := by decide +kernel
theorem dX10_go_28 : decode cX10_go 28 = .ok (.getfield 160, 3) := by decide +kernel
theorem dX10_go_31 : decode cX10_go 31 = .ok (.iconst 1, 1) := by decide +kernel
theorem dX10_go_32 : decode cX10_go 32 = .ok (.iadd, 1) := by decide +kernel
theorem dX10_go_33 : decode cX10_go 33 = .ok (.putfield 160, 3) := by decide +kernel
theorem dX10_go_36 : decode cX10_go 36 = .ok (.goto (-36), 3) := by decide +kernel
theorem dX10_go_39 : decode cX10_go 39 = .ok (.aload_n 0, 1) := by decide +kernel
theorem dX10_go_40 : decode cX10_go 40 = .ok (.aload_n 0, 1) := by decide +kernel
theorem dX10_go_41 : decode cX10_go 41 = .ok (.getfield 160, 3) := by decide +kernel
theorem dX10_go_44 : decode cX10_go 44 = .ok (.putfield 166, 3) := by decide +kernel
theorem dX10_go_47 : decode cX10_go 47 = .ok (.aload_n 0, 1) := by decide +kernel
theorem dX10_go_48 : decode cX10_go 48 = .ok (.aload_n 0, 1) := by decide +kernel
theorem dX10_go_49 : decode cX10_go 49 = .ok (.getfield 160, 3) := by decide +kernel
theorem dX10_go_52 : decode cX10_go 52 = .ok (.invokevirtual 163, 3) := by decide +kernel
theorem dX10_go_55 : decode cX10_go 55 = .ok (.istore_n 1, 1) := by decide +kernel
theorem dX10_go_56 : decode cX10_go 56 = .ok (.iload_n 1, 1) := by decide +kernel
theorem dX10_go_57 : decode cX10_go 57 = .ok (.iconst (-1), 1) := by decide +kernel
theorem dX10_go_58 : decode cX10_go 58 = .ok (.if_icmp .ne 11, 3) := by decide +kernel
theorem dX10_go_61 : decode cX10_go 61 = .ok (.aload_n 0, 1) := by decide +kernel
theorem dX10_go_62 : decode cX10_go 62 = .ok (.iconst 0, 1) := by decide +kernel
theorem dX10_go_63 : decode cX10_go 63 = .ok (.putfield 169, 3) := by decide +kernel
theorem dX10_go_66 : decode cX10_go 66 = .ok (.goto 171, 3) := by decide +kernel
theorem dX10_go_69 : decode cX10_go 69 = .ok (.iload_n 1, 1) := by decide +kernel
theorem dX10_go_70 : decode cX10_go 70 = .ok (.invokestatic 172, 3) := by decide +kernel
theorem dX10_go_73 : decode cX10_go 73 = .ok (.ifCond .eq 38, 3) := by decide +kernel
theorem dX10_go_76 : decode cX10_go 76 = .ok (.aload_n 0, 1) := by decide +kernel
theorem dX10_go_77 : decode cX10_go 77 = .ok (.aload_n 0, 1) := by decide +kernel
theorem dX10_go_78 : decode cX10_go 78 = .ok (.getfield 160, 3) := by decide +kernel
theorem dX10_go_81 : decode cX10_go 81 = .ok (.invokevirtual 163, 3) := by decide +kernel
theorem dX10_go_84 : decode cX10_go 84 = .ok (.invokestatic 172, 3) := by decide +kernel
theorem dX10_go_87 : decode cX10_go 87 = .ok (.ifCond .eq 16, 3) := by decide +kernel
theorem dX10_go_90 : decode cX10_go 90 = .ok (.aload_n 0, 1) := by decide +kernel
theorem dX10_go_91 : decode cX10_go 91 = .ok (.dup, 1) := by decide +kernel
theorem dX10_go_92 : decode cX10_go 92 = .ok (.getfield 160, 3) := by decide +kernel
theorem dX10_go_95 : decode cX10_go 95 = .ok (.iconst 1, 1) := by decide +kernel
theorem dX10_go_96 : decode cX10_go 96 = .ok (.iadd, 1) := by decide +kernel
theorem dX10_go_97 : decode cX10_go 97 = .ok (.putfield 160, 3) := by decide +kernel
theorem dX10_go_100 : decode cX10_go 100 = .ok (.goto (-24), 3) := by decide +kernel
theorem dX10_go_103 : decode cX10_go 103 = .ok (.aload_n 0, 1) := by decide +kernel
theorem dX10_go_104 : decode cX10_go 104 = .ok (.iconst 2, 1) := by decide +kernel
theorem dX10_go_105 : decode cX10_go 105 = .ok (.putfield 169, 3) := by decide +kernel
theorem dX10_go_108 : decode cX10_go 108 = .ok (.goto 129, 3) := by decide +kernel
theorem dX10_go_111 : decode cX10_go 111 = .ok (.iload_n 1, 1) := by decide +kernel
theorem dX10_go_112 : decode cX10_go 112 = .ok (.invokestatic 175, 3) := by decide +kernel
theorem dX10_go_115 : decode cX10_go 115 = .ok (.ifCond .eq 97, 3) := by decide +kernel
theorem dX10_go_118 : decode cX10_go 118 = .ok (.aload_n 0, 1) := by decide +kernel
theorem dX10_go_119 : decode cX10_go 119 = .ok (.iconst 0, 1) := by decide +kernel
theorem dX10_go_120 : decode cX10_go 120 = .ok (.putfield 178, 3) := by decide +kernel
theorem dX10_go_123 : decode cX10_go 123 = .ok (.aload_n 0, 1) := by decide +kernel
theorem dX10_go_124 : decode cX10_go 124 = .ok (.aload_n 0, 1) := by decide +kernel
theorem dX10_go_125 : decode cX10_go 125 = .ok (.getfield 160, 3) := by decide +kernel
theorem dX10_go_128 : decode cX10_go 128 = .ok (.invokevirtual 163, 3) := by decide +kernel
theorem dX10_go_131 : decode cX10_go 131 = .ok (.invokestatic 175, 3) := by decide +kernel
theorem dX10_go_134 : decode cX10_go 134 = .ok (.ifCond .eq 53, 3) := by decide +kernel
theorem dX10_go_137 : decode cX10_go 137 = .ok (.aload_n 0, 1) := by decide +kernel
theorem dX10_go_138 : decode cX10_go 138 = .ok (.getfield 160, 3) := by decide +kernel
theorem dX10_go_141 : decode cX10_go 141 = .ok (.aload_n 0, 1) := by decide +kernel
theorem dX10_go_142 : decode cX10_go 142 = .ok (.getfield 166, 3) := by decide +kernel
theorem dX10_go_145 : decode cX10_go 145 = .ok (.isub, 1) := by decide +kernel
theorem dX10_go_146 : decode cX10_go 146 = .ok (.iconst 2, 1) := by decide +kernel
theorem dX10_go_147 : decode cX10_go 147 = .ok (.if_icmp .ge 27, 3) := by decide +kernel
theorem dX10_go_150 : decode cX10_go 150 = .ok (.aload_n 0, 1) := by decide +kernel
theorem dX10_go_151 : decode cX10_go 151 = .ok (.bipush 10, 2) := by decide +kernel
theorem dX10_go_153 : decode cX10_go 153 = .ok (.aload_n 0, 1) := by decide +kernel
theorem dX10_go_154 : decode cX10_go 154 = .ok (.getfield 178, 3) := by decide +kernel
theorem dX10_go_157 : decode cX10_go 157 = .ok (.imul, 1) := by decide +kernel
theorem dX10_go_158 : decode cX10_go 158 = .ok (.aload_n 0, 1) := by decide +kernel
theorem dX10_go_159 : decode cX10_go 159 = .ok (.getfield 41, 3) := by decide +kernel
theorem dX10_go_162 : decode cX10_go 162 = .ok (.aload_n 0, 1) := by decide +kernel
theorem dX10_go_163 : decode cX10_go 163 = .ok (.getfield 160, 3) := by decide +kernel
theorem dX10_go_166 : decode cX10_go 166 = .ok (.iaload, 1) := by decide +kernel
theorem dX10_go_167 : decode cX10_go 167 = .ok (.iadd, 1) := by decide +kernel
theorem dX10_go_168 : decode cX10_go 168 = .ok (.bipush 48, 2) := by decide +kernel
theorem dX10_go_170 : decode cX10_go 170 = .ok (.isub, 1) := by decide +kernel
theorem dX10_go_171 : decode cX10_go 171 = .ok (.putfield 178, 3) := by decide +kernel
theorem dX10_go_174 : decode cX10_go 174 = .ok (.aload_n 0, 1) := by decide +kernel
theorem dX10_go_175 : decode cX10_go 175 = .ok (.dup, 1) := by decide +kernel
theorem dX10_go_176 : decode cX10_go 176 = .ok (.getfield 160, 3) := by decide +kernel
theorem dX10_go_179 : decode cX10_go 179 = .ok (.iconst 1, 1) := by decide +kernel
theorem dX10_go_180 : decode cX10_go 180 = .ok (.iadd, 1) := by decide +kernel
theorem dX10_go_181 : decode cX10_go 181 = .ok (.putfield 160, 3) := by decide +kernel
theorem dX10_go_184 : decode cX10_go 184 = .ok (.goto (-61), 3) := by decide +kernel
theorem dX10_go_187 : decode cX10_go 187 = .ok (.aload_n 0, 1) := by decide +kernel
theorem dX10_go_188 : decode cX10_go 188 = .ok (.aload_n 0, 1) := by decide +kernel
theorem dX10_go_189 : decode cX10_go 189 = .ok (.getfield 160, 3) := by decide +kernel
theorem dX10_go_192 : decode cX10_go 192 = .ok (.aload_n 0, 1) := by decide +kernel
theorem dX10_go_193 : decode cX10_go 193 = .ok (.getfield 166, 3) := by decide +kernel
theorem dX10_go_196 : decode cX10_go 196 = .ok (.isub, 1) := by decide +kernel
theorem dX10_go_197 : decode cX10_go 197 = .ok (.iconst 2, 1) := by decide +kernel
theorem dX10_go_198 : decode cX10_go 198 = .ok (.if_icmp .le 7, 3) := by decide +kernel
theorem dX10_go_201 : decode cX10_go 201 = .ok (.iconst 1, 1) := by decide +kernel
theorem dX10_go_202 : decode cX10_go 202 = .ok (.goto 4, 3) := by decide +kernel
theorem dX10_go_205 : decode cX10_go 205 = .ok (.iconst 3, 1) := by decide +kernel
theorem dX10_go_206 : decode cX10_go 206 = .ok (.putfield 169, 3) := by decide +kernel
theorem dX10_go_209 : decode cX10_go 209 = .ok (.goto 28, 3) := by decide +kernel
theorem dX10_go_212 : decode cX10_go 212 = .ok (.aload_n 0, 1) := by decide +kernel
theorem dX10_go_213 : decode cX10_go 213 = .ok (.dup, 1) := by decide +kernel
theorem dX10_go_214 : decode cX10_go 214 = .ok (.getfield 160, 3) := by decide +kernel
theorem dX10_go_217 : decode cX10_go 217 = .ok (.iconst 1, 1) := by decide +kernel
theorem dX10_go_218 : decode cX10_go 218 = .ok (.iadd, 1) := by decide +kernel
theorem dX10_go_219 : decode cX10_go 219 = .ok (.putfield 160, 3) := by decide +kernel
theorem dX10_go_222 : decode cX10_go 222 = .ok (.aload_n 0, 1) := by decide +kernel
theorem dX10_go_223 : decode cX10_go 223 = .ok (.iload_n 1, 1) := by decide +kernel
theorem dX10_go_224 : decode cX10_go 224 = .ok (.bipush 59, 2) := by decide +kernel
theorem dX10_go_226 : decode cX10_go 226 = .ok (.if_icmp .ne 7, 3) := by decide +kernel
theorem dX10_go_229 : decode cX10_go 229 = .ok (.iconst 4, 1) := by decide +kernel
theorem dX10_go_230 : decode cX10_go 230 = .ok (.goto 4, 3) := by decide +kernel
theorem dX10_go_233 : decode cX10_go 233 = .ok (.iconst 1, 1) := by decide +kernel
theorem dX10_go_234 : decode cX10_go 234 = .ok (.putfield 169, 3) := by decide +kernel
theorem dX10_go_237 : decode cX10_go 237 = .ok (.return_, 1) := by decide +kernel
theorem dX10_isWord_0 : decode cX10_isWord 0 = .ok (.aload_n 0, 1) := by decide +kernel
theorem dX10_isWord_1 : decode cX10_isWord 1 = .ok (.getfield 169, 3) := by decide +kernel
theorem dX10_isWord_4 : decode cX10_isWord 4 = .ok (.iconst 2, 1) := by decide +kernel
theorem dX10_isWord_5 : decode cX10_isWord 5 = .ok (.if_icmp .ne 19, 3) := by decide +kernel
theorem dX10_isWord_8 : decode cX10_isWord 8 = .ok (.aload_n 0, 1) := by decide +kernel
theorem dX10_isWord_9 : decode cX10_isWord 9 = .ok (.getfield 160, 3) := by decide +kernel
theorem dX10_isWord_12 : decode cX10_isWord 12 = .ok (.aload_n 0, 1) := by decide +kernel
theorem dX10_isWord_13 : decode cX10_isWord 13 = .ok (.getfield 166, 3) := by decide +kernel
theorem dX10_isWord_16 : decode cX10_isWord 16 = .ok (.isub, 1) := by decide +kernel
theorem dX10_isWord_17 : decode cX10_isWord 17 = .ok (.aload_n 1, 1) := by decide +kernel
theorem dX10_isWord_18 : decode cX10_isWord 18 = .ok (.invokevirtual 181, 3) := by decide +kernel
theorem dX10_isWord_21 : decode cX10_isWord 21 = .ok (.if_icmp .eq 5, 3) := by decide +kernel
theorem dX10_isWord_24 : decode cX10_isWord 24 = .ok (.iconst 0, 1) := by decide +kernel
theorem dX10_isWord_25 : decode cX10_isWord 25 = .ok (.ireturn, 1) := by decide +kernel
theorem dX10_isWord_26 : decode cX10_isWord 26 = .ok (.iconst 0, 1) := by decide +kernel
theorem dX10_isWord_27 : decode cX10_isWord 27 = .ok (.istore_n 2, 1) := by decide +kernel
theorem dX10_isWord_28 : decode cX10_isWord 28 = .ok (.iload_n 2, 1) := by decide +kernel
theorem dX10_isWord_29 : decode cX10_isWord 29 = .ok (.aload_n 1, 1) := by decide +kernel
theorem dX10_isWord_30 : decode cX10_isWord 30 = .ok (.invokevirtual 181, 3) := by decide +kernel
theorem dX10_isWord_33 : decode cX10_isWord 33 = .ok (.if_icmp .ge 30, 3) := by decide +kernel
theorem dX10_isWord_36 : decode cX10_isWord 36 = .ok (.aload_n 0, 1) := by decide +kernel
theorem dX10_isWord_37 : decode cX10_isWord 37 = .ok (.getfield 41, 3) := by decide +kernel
theorem dX10_isWord_40 : decode cX10_isWord 40 = .ok (.aload_n 0, 1) := by decide +kernel
theorem dX10_isWord_41 : decode cX10_isWord 41 = .ok (.getfield 166, 3) := by decide +kernel
theorem dX10_isWord_44 : decode cX10_isWord 44 = .ok (.iload_n 2, 1) := by decide +kernel
theorem dX10_isWord_45 : decode cX10_isWord 45 = .ok (.iadd, 1) := by decide +kernel
theorem dX10_isWord_46 : decode cX10_isWord 46 = .ok (.iaload, 1) := by decide +kernel
theorem dX10_isWord_47 : decode cX10_isWord 47 = .ok (.aload_n 1, 1) := by decide +kernel
theorem dX10_isWord_48 : decode cX10_isWord 48 = .ok (.iload_n 2, 1) := by decide +kernel
theorem dX10_isWord_49 : decode cX10_isWord 49 = .ok (.invokevirtual 186, 3) := by decide +kernel
theorem dX10_isWord_52 : decode cX10_isWord 52 = .ok (.if_icmp .eq 5, 3) := by decide +kernel
theorem dX10_isWord_55 : decode cX10_isWord 55 = .ok (.iconst 0, 1) := by decide +kernel
theorem dX10_isWord_56 : decode cX10_isWord 56 = .ok (.ireturn, 1) := by decide +kernel
theorem dX10_isWord_57 : decode cX10_isWord 57 = .ok (.iinc 2 1, 3) := by decide +kernel
theorem dX10_isWord_60 : decode cX10_isWord 60 = .ok (.goto (-32), 3) := by decide +kernel
theorem dX10_isWord_63 : decode cX10_isWord 63 = .ok (.iconst 1, 1) := by decide +kernel
theorem dX10_isWord_64 : decode cX10_isWord 64 = .ok (.ireturn, 1) := by decide +kernel
theorem dX10_bad_0 : decode cX10_bad 0 = .ok (.aload_n 0, 1) := by decide +kernel
theorem dX10_bad_1 : decode cX10_bad 1 = .ok (.iload_n 1, 1) := by decide +kernel
theorem dX10_bad_2 : decode cX10_bad 2 = .ok (.putfield 190, 3) := by decide +kernel
theorem dX10_bad_5 : decode cX10_bad 5 = .ok (.aload_n 0, 1) := by decide +kernel
theorem dX10_bad_6 : decode cX10_bad 6 = .ok (.aload_n 0, 1) := by decide +kernel
theorem dX10_bad_7 : decode cX10_bad 7 = .ok (.getfield 166, 3) := by decide +kernel
theorem dX10_bad_10 : decode cX10_bad 10 = .ok (.putfield 193, 3) := by decide +kernel
theorem dX10_bad_13 : decode cX10_bad 13 = .ok (.iconst 0, 1) := by decide +kernel
theorem dX10_bad_14 : decode cX10_bad 14 = .ok (.ireturn, 1) := by decide +kernel
theorem dX10_reads_0 : decode cX10_reads 0 = .ok (.aload_n 0, 1) := by decide +kernel
theorem dX10_reads_1 : decode cX10_reads 1 = .ok (.getfield 169, 3) := by decide +kernel
theorem dX10_reads_4 : decode cX10_reads 4 = .ok (.iconst 3, 1) := by decide +kernel
theorem dX10_reads_5 : decode cX10_reads 5 = .ok (.if_icmp .eq 9, 3) := by decide +kernel
theorem dX10_reads_8 : decode cX10_reads 8 = .ok (.aload_n 0, 1) := by decide +kernel
theorem dX10_reads_9 : decode cX10_reads 9 = .ok (.iconst 1, 1) := by decide +kernel
theorem dX10_reads_10 : decode cX10_reads 10 = .ok (.invokevirtual 196, 3) := by decide +kernel
theorem dX10_reads_13 : decode cX10_reads 13 = .ok (.ireturn, 1) := by decide +kernel
theorem dX10_reads_14 : decode cX10_reads 14 = .ok (.aload_n 0, 1) := by decide +kernel
theorem dX10_reads_15 : decode cX10_reads 15 = .ok (.getfield 178, 3) := by decide +kernel
theorem dX10_reads_18 : decode cX10_reads 18 = .ok (.iload_n 1, 1) := by decide +kernel
theorem dX10_reads_19 : decode cX10_reads 19 = .ok (.iload_n 2, 1) := by decide +kernel
theorem dX10_reads_20 : decode cX10_reads 20 = .ok (.invokestatic 153, 3) := by decide +kernel
theorem dX10_reads_23 : decode cX10_reads 23 = .ok (.ifCond .ne 9, 3) := by decide +kernel
theorem dX10_reads_26 : decode cX10_reads 26 = .ok (.aload_n 0, 1) := by decide +kernel
theorem dX10_reads_27 : decode cX10_reads 27 = .ok (.iconst 2, 1) := by decide +kernel
theorem dX10_reads_28 : decode cX10_reads 28 = .ok (.invokevirtual 196, 3) := by decide +kernel
theorem dX10_reads_31 : decode cX10_reads 31 = .ok (.ireturn, 1) := by decide +kernel
theorem dX10_reads_32 : decode cX10_reads 32 = .ok (.aload_n 0, 1) := by decide +kernel
theorem dX10_reads_33 : decode cX10_reads 33 = .ok (.aload_n 0, 1) := by decide +kernel
theorem dX10_reads_34 : decode cX10_reads 34 = .ok (.getfield 178, 3) := by decide +kernel
theorem dX10_reads_37 : decode cX10_reads 37 = .ok (.putfield 199, 3) := by decide +kernel
theorem dX10_reads_40 : decode cX10_reads 40 = .ok (.aload_n 0, 1) := by decide +kernel
theorem dX10_reads_41 : decode cX10_reads 41 = .ok (.invokevirtual 202, 3) := by decide +kernel
theorem dX10_reads_44 : decode cX10_reads 44 = .ok (.iconst 1, 1) := by decide +kernel
theorem dX10_reads_45 : decode cX10_reads 45 = .ok (.ireturn, 1) := by decide +kernel
theorem dX10_readsEnd_0 : decode cX10_readsEnd 0 = .ok (.aload_n 0, 1) := by decide +kernel
theorem dX10_readsEnd_1 : decode cX10_readsEnd 1 = .ok (.getfield 169, 3) := by decide +kernel
theorem dX10_readsEnd_4 : decode cX10_readsEnd 4 = .ok (.iconst 3, 1) := by decide +kernel
theorem dX10_readsEnd_5 : decode cX10_readsEnd 5 = .ok (.if_icmp .eq 9, 3) := by decide +kernel
theorem dX10_readsEnd_8 : decode cX10_readsEnd 8 = .ok (.aload_n 0, 1) := by decide +kernel
theorem dX10_readsEnd_9 : decode cX10_readsEnd 9 = .ok (.iconst 1, 1) := by decide +kernel
theorem dX10_readsEnd_10 : decode cX10_readsEnd 10 = .ok (.invokevirtual 196, 3) := by decide +kernel
theorem dX10_readsEnd_13 : decode cX10_readsEnd 13 = .ok (.ireturn, 1) := by decide +kernel
theorem dX10_readsEnd_14 : decode cX10_readsEnd 14 = .ok (.aload_n 0, 1) := by decide +kernel
theorem dX10_readsEnd_15 : decode cX10_readsEnd 15 = .ok (.getfield 178, 3) := by decide +kernel
theorem dX10_readsEnd_18 : decode cX10_readsEnd 18 = .ok (.aload_n 0, 1) := by decide +kernel
theorem dX10_readsEnd_19 : decode cX10_readsEnd 19 = .ok (.getfield 60, 3) := by decide +kernel
theorem dX10_readsEnd_22 : decode cX10_readsEnd 22 = .ok (.if_icmp .lt 9, 3) := by decide +kernel
theorem dX10_readsEnd_25 : decode cX10_readsEnd 25 = .ok (.aload_n 0, 1) := by decide +kernel
theorem dX10_readsEnd_26 : decode cX10_readsEnd 26 = .ok (.iconst 2, 1) := by decide +kernel
theorem dX10_readsEnd_27 : decode cX10_readsEnd 27 = .ok (.invokevirtual 196, 3) := by decide +kernel
theorem dX10_readsEnd_30 : decode cX10_readsEnd 30 = .ok (.ireturn, 1) := by decide +kernel
theorem dX10_readsEnd_31 : decode cX10_readsEnd 31 = .ok (.aload_n 0, 1) := by decide +kernel
theorem dX10_readsEnd_32 : decode cX10_readsEnd 32 = .ok (.iload_n 1, 1) := by decide +kernel
theorem dX10_readsEnd_33 : decode cX10_readsEnd 33 = .ok (.invokevirtual 84, 3) := by decide +kernel
theorem dX10_readsEnd_36 : decode cX10_readsEnd 36 = .ok (.aload_n 0, 1) := by decide +kernel
theorem dX10_readsEnd_37 : decode cX10_readsEnd 37 = .ok (.getfield 178, 3) := by decide +kernel
theorem dX10_readsEnd_40 : decode cX10_readsEnd 40 = .ok (.invokestatic 70, 3) := by decide +kernel
theorem dX10_readsEnd_43 : decode cX10_readsEnd 43 = .ok (.ifCond .eq 9, 3) := by decide +kernel
theorem dX10_readsEnd_46 : decode cX10_readsEnd 46 = .ok (.aload_n 0, 1) := by decide +kernel
theorem dX10_readsEnd_47 : decode cX10_readsEnd 47 = .ok (.iconst 3, 1) := by decide +kernel
theorem dX10_readsEnd_48 : decode cX10_readsEnd 48 = .ok (.invokevirtual 196, 3) := by decide +kernel
theorem dX10_readsEnd_51 : decode cX10_readsEnd 51 = .ok (.ireturn, 1) := by decide +kernel
theorem dX10_readsEnd_52 : decode cX10_readsEnd 52 = .ok (.aload_n 0, 1) := by decide +kernel
theorem dX10_readsEnd_53 : decode cX10_readsEnd 53 = .ok (.getfield 23, 3) := by decide +kernel
theorem dX10_readsEnd_56 : decode cX10_readsEnd 56 = .ok (.iload_n 1, 1) := by decide +kernel
theorem dX10_readsEnd_57 : decode cX10_readsEnd 57 = .ok (.aload_n 0, 1) := by decide +kernel
theorem dX10_readsEnd_58 : decode cX10_readsEnd 58 = .ok (.getfield 178, 3) := by decide +kernel
theorem dX10_readsEnd_61 : decode cX10_readsEnd 61 = .ok (.invokestatic 205, 3) := by decide +kernel
theorem dX10_readsEnd_64 : decode cX10_readsEnd 64 = .ok (.aload_n 0, 1) := by decide +kernel
theorem dX10_readsEnd_65 : decode cX10_readsEnd 65 = .ok (.aload_n 0, 1) := by decide +kernel
theorem dX10_readsEnd_66 : decode cX10_readsEnd 66 = .ok (.getfield 178, 3) := by decide +kernel
theorem dX10_readsEnd_69 : decode cX10_readsEnd 69 = .ok (.putfield 199, 3) := by decide +kernel
theorem dX10_readsEnd_72 : decode cX10_readsEnd 72 = .ok (.aload_n 0, 1) := by decide +kernel
theorem dX10_readsEnd_73 : decode cX10_readsEnd 73 = .ok (.invokevirtual 202, 3) := by decide +kernel
theorem dX10_readsEnd_76 : decode cX10_readsEnd 76 = .ok (.iconst 1, 1) := by decide +kernel
theorem dX10_readsEnd_77 : decode cX10_readsEnd 77 = .ok (.ireturn, 1) := by decide +kernel
theorem dX10_readsEdges_0 : decode cX10_readsEdges 0 = .ok (.aload_n 0, 1) := by decide +kernel
theorem dX10_readsEdges_1 : decode cX10_readsEdges 1 = .ok (.invokevirtual 202, 3) := by decide +kernel
theorem dX10_readsEdges_4 : decode cX10_readsEdges 4 = .ok (.aload_n 0, 1) := by decide +kernel
theorem dX10_readsEdges_5 : decode cX10_readsEdges 5 = .ok (.iconst 0, 1) := by decide +kernel
theorem dX10_readsEdges_6 : decode cX10_readsEdges 6 = .ok (.aload_n 0, 1) := by decide +kernel
theorem dX10_readsEdges_7 : decode cX10_readsEdges 7 = .ok (.getfield 60, 3) := by decide +kernel
theorem dX10_readsEdges_10 : decode cX10_readsEdges 10 = .ok (.iconst 1, 1) := by decide +kernel
theorem dX10_readsEdges_11 : decode cX10_readsEdges 11 = .ok (.isub, 1) := by decide +kernel
theorem dX10_readsEdges_12 : decode cX10_readsEdges 12 = .ok (.invokevirtual 209, 3) := by decide +kernel
theorem dX10_readsEdges_15 : decode cX10_readsEdges 15 = .ok (.ifCond .ne 5, 3) := by decide +kernel
theorem dX10_readsEdges_18 : decode cX10_readsEdges 18 = .ok (.iconst 0, 1) := by decide +kernel
theorem dX10_readsEdges_19 : decode cX10_readsEdges 19 = .ok (.ireturn, 1) := by decide +kernel
theorem dX10_readsEdges_20 : decode cX10_readsEdges 20 = .ok (.aload_n 0, 1) := by decide +kernel
theorem dX10_readsEdges_21 : decode cX10_readsEdges 21 = .ok (.getfield 199, 3) := by decide +kernel
theorem dX10_readsEdges_24 : decode cX10_readsEdges 24 = .ok (.istore_n 3, 1) := by decide +kernel
theorem dX10_readsEdges_25 : decode cX10_readsEdges 25 = .ok (.aload_n 0, 1) := by decide +kernel
theorem dX10_readsEdges_26 : decode cX10_readsEdges 26 = .ok (.iload_n 3, 1) := by decide +kernel
theorem dX10_readsEdges_27 : decode cX10_readsEdges 27 = .ok (.invokevirtual 212, 3) := by decide +kernel
theorem dX10_readsEdges_30 : decode cX10_readsEdges 30 = .ok (.ifCond .ne 5, 3) := by decide +kernel
theorem dX10_readsEdges_33 : decode cX10_readsEdges 33 = .ok (.iconst 0, 1) := by decide +kernel
theorem dX10_readsEdges_34 : decode cX10_readsEdges 34 = .ok (.ireturn, 1) := by decide +kernel
theorem dX10_readsEdges_35 : decode cX10_readsEdges 35 = .ok (.iload_n 1, 1) := by decide +kernel
theorem dX10_readsEdges_36 : decode cX10_readsEdges 36 = .ok (.ifCond .eq 10, 3) := by decide +kernel
theorem dX10_readsEdges_39 : decode cX10_readsEdges 39 = .ok (.aload_n 0, 1) := by decide +kernel
theorem dX10_readsEdges_40 : decode cX10_readsEdges 40 = .ok (.getfield 199, 3) := by decide +kernel
theorem dX10_readsEdges_43 : decode cX10_readsEdges 43 = .ok (.goto 4, 3) := by decide +kernel
theorem dX10_readsEdges_46 : decode cX10_readsEdges 46 = .ok (.iload_n 3, 1) := by decide +kernel
theorem dX10_readsEdges_47 : decode cX10_readsEdges 47 = .ok (.istore_n 3, 1) := by decide +kernel
theorem dX10_readsEdges_48 : decode cX10_readsEdges 48 = .ok (.iload_n 2, 1) := by decide +kernel
theorem dX10_readsEdges_49 : decode cX10_readsEdges 49 = .ok (.ifCond .ne 11, 3) := by decide +kernel
theorem dX10_readsEdges_52 : decode cX10_readsEdges 52 = .ok (.aload_n 0, 1) := by decide +kernel
theorem dX10_readsEdges_53 : decode cX10_readsEdges 53 = .ok (.getfield 169, 3) := by decide +kernel
theorem dX10_readsEdges_56 : decode cX10_readsEdges 56 = .ok (.iconst 3, 1) := by decide +kernel
theorem dX10_readsEdges_57 : decode cX10_readsEdges 57 = .ok (.if_icmp .eq (-32), 3) := by decide +kernel
theorem dX10_readsEdges_60 : decode cX10_readsEdges 60 = .ok (.iconst 1, 1) := by decide +kernel
theorem dX10_readsEdges_61 : decode cX10_readsEdges 61 = .ok (.ireturn, 1) := by decide +kernel
theorem dX10_codeMany_0 : decode cX10_codeMany 0 = .ok (.iload_n 0, 1) := by decide +kernel
theorem dX10_codeMany_1 : decode cX10_codeMany 1 = .ok (.iconst 3, 1) := by decide +kernel
theorem dX10_codeMany_2 : decode cX10_codeMany 2 = .ok (.if_icmp .ge 7, 3) := by decide +kernel
theorem dX10_codeMany_5 : decode cX10_codeMany 5 = .ok (.iconst 0, 1) := by decide +kernel
theorem dX10_codeMany_6 : decode cX10_codeMany 6 = .ok (.goto 6, 3) := by decide +kernel
theorem dX10_codeMany_9 : decode cX10_codeMany 9 = .ok (.iload_n 0, 1) := by decide +kernel
theorem dX10_codeMany_10 : decode cX10_codeMany 10 = .ok (.iconst 2, 1) := by decide +kernel
theorem dX10_codeMany_11 : decode cX10_codeMany 11 = .ok (.isub, 1) := by decide +kernel
theorem dX10_codeMany_12 : decode cX10_codeMany 12 = .ok (.ireturn, 1) := by decide +kernel
theorem dX10_grows_0 : decode cX10_grows 0 = .ok (.aload_n 0, 1) := by decide +kernel
theorem dX10_grows_1 : decode cX10_grows 1 = .ok (.iload_n 1, 1) := by decide +kernel
theorem dX10_grows_2 : decode cX10_grows 2 = .ok (.putfield 60, 3) := by decide +kernel
theorem dX10_grows_5 : decode cX10_grows 5 = .ok (.iconst 0, 1) := by decide +kernel
theorem dX10_grows_6 : decode cX10_grows 6 = .ok (.istore_n 2, 1) := by decide +kernel
theorem dX10_grows_7 : decode cX10_grows 7 = .ok (.iload_n 2, 1) := by decide +kernel
theorem dX10_grows_8 : decode cX10_grows 8 = .ok (.bipush 10, 2) := by decide +kernel
theorem dX10_grows_10 : decode cX10_grows 10 = .ok (.if_icmp .ge 16, 3) := by decide +kernel
theorem dX10_grows_13 : decode cX10_grows 13 = .ok (.aload_n 0, 1) := by decide +kernel
theorem dX10_grows_14 : decode cX10_grows 14 = .ok (.getfield 23, 3) := by decide +kernel
theorem dX10_grows_17 : decode cX10_grows 17 = .ok (.iload_n 2, 1) := by decide +kernel
theorem dX10_grows_18 : decode cX10_grows 18 = .ok (.iconst 0, 1) := by decide +kernel
theorem dX10_grows_19 : decode cX10_grows 19 = .ok (.iastore, 1) := by decide +kernel
theorem dX10_grows_20 : decode cX10_grows 20 = .ok (.iinc 2 1, 3) := by decide +kernel
theorem dX10_grows_23 : decode cX10_grows 23 = .ok (.goto (-16), 3) := by decide +kernel
theorem dX10_grows_26 : decode cX10_grows 26 = .ok (.iconst 1, 1) := by decide +kernel
theorem dX10_grows_27 : decode cX10_grows 27 = .ok (.iload_n 1, 1) := by decide +kernel
theorem dX10_grows_28 : decode cX10_grows 28 = .ok (.ishl, 1) := by decide +kernel
theorem dX10_grows_29 : decode cX10_grows 29 = .ok (.iconst 1, 1) := by decide +kernel
theorem dX10_grows_30 : decode cX10_grows 30 = .ok (.isub, 1) := by decide +kernel
theorem dX10_grows_31 : decode cX10_grows 31 = .ok (.istore_n 2, 1) := by decide +kernel
theorem dX10_grows_32 : decode cX10_grows 32 = .ok (.iconst 0, 1) := by decide +kernel
theorem dX10_grows_33 : decode cX10_grows 33 = .ok (.istore_n 3, 1) := by decide +kernel
theorem dX10_grows_34 : decode cX10_grows 34 = .ok (.iload_n 3, 1) := by decide +kernel
theorem dX10_grows_35 : decode cX10_grows 35 = .ok (.iload_n 1, 1) := by decide +kernel
theorem dX10_grows_36 : decode cX10_grows 36 = .ok (.invokestatic 215, 3) := by decide +kernel
theorem dX10_grows_39 : decode cX10_grows 39 = .ok (.if_icmp .ge 62, 3) := by decide +kernel
theorem dX10_grows_42 : decode cX10_grows 42 = .ok (.iconst 0, 1) := by decide +kernel
theorem dX10_grows_43 : decode cX10_grows 43 = .ok (.istore 4, 2) := by decide +kernel
theorem dX10_grows_45 : decode cX10_grows 45 = .ok (.iload_n 2, 1) := by decide +kernel
theorem dX10_grows_46 : decode cX10_grows 46 = .ok (.iload 4, 2) := by decide +kernel
theorem dX10_grows_48 : decode cX10_grows 48 = .ok (.invokestatic 70, 3) := by decide +kernel
theorem dX10_grows_51 : decode cX10_grows 51 = .ok (.ifCond .eq 14, 3) := by decide +kernel
theorem dX10_grows_54 : decode cX10_grows 54 = .ok (.aload_n 0, 1) := by decide +kernel
theorem dX10_grows_55 : decode cX10_grows 55 = .ok (.iload 4, 2) := by decide +kernel
theorem dX10_grows_57 : decode cX10_grows 57 = .ok (.iload_n 3, 1) := by decide +kernel
theorem dX10_grows_58 : decode cX10_grows 58 = .ok (.iload_n 1, 1) := by decide +kernel
theorem dX10_grows_59 : decode cX10_grows 59 = .ok (.invokevirtual 218, 3) := by decide +kernel
theorem dX10_grows_62 : decode cX10_grows 62 = .ok (.ifCond .eq 9, 3) := by decide +kernel
theorem dX10_grows_65 : decode cX10_grows 65 = .ok (.iinc 4 1, 3) := by decide +kernel
theorem dX10_grows_68 : decode cX10_grows 68 = .ok (.goto (-23), 3) := by decide +kernel
theorem dX10_grows_71 : decode cX10_grows 71 = .ok (.aload_n 0, 1) := by decide +kernel
theorem dX10_grows_72 : decode cX10_grows 72 = .ok (.getfield 23, 3) := by decide +kernel
theorem dX10_grows_75 : decode cX10_grows 75 = .ok (.iload 4, 2) := by decide +kernel
theorem dX10_grows_77 : decode cX10_grows 77 = .ok (.aload_n 0, 1) := by decide +kernel
theorem dX10_grows_78 : decode cX10_grows 78 = .ok (.getfield 44, 3) := by decide +kernel
theorem dX10_grows_81 : decode cX10_grows 81 = .ok (.iload_n 3, 1) := by decide +kernel
theorem dX10_grows_82 : decode cX10_grows 82 = .ok (.iaload, 1) := by decide +kernel
theorem dX10_grows_83 : decode cX10_grows 83 = .ok (.invokestatic 205, 3) := by decide +kernel
theorem dX10_grows_86 : decode cX10_grows 86 = .ok (.iload_n 2, 1) := by decide +kernel
theorem dX10_grows_87 : decode cX10_grows 87 = .ok (.iconst 1, 1) := by decide +kernel
theorem dX10_grows_88 : decode cX10_grows 88 = .ok (.iload 4, 2) := by decide +kernel
theorem dX10_grows_90 : decode cX10_grows 90 = .ok (.ishl, 1) := by decide +kernel
theorem dX10_grows_91 : decode cX10_grows 91 = .ok (.iconst (-1), 1) := by decide +kernel
theorem dX10_grows_92 : decode cX10_grows 92 = .ok (.ixor, 1) := by decide +kernel
theorem dX10_grows_93 : decode cX10_grows 93 = .ok (.iand, 1) := by decide +kernel
theorem dX10_grows_94 : decode cX10_grows 94 = .ok (.istore_n 2, 1) := by decide +kernel
theorem dX10_grows_95 : decode cX10_grows 95 = .ok (.iinc 3 1, 3) := by decide +kernel
theorem dX10_grows_98 : decode cX10_grows 98 = .ok (.goto (-64), 3) := by decide +kernel
theorem dX10_grows_101 : decode cX10_grows 101 = .ok (.iload_n 1, 1) := by decide +kernel
theorem dX10_grows_102 : decode cX10_grows 102 = .ok (.iconst 1, 1) := by decide +kernel
theorem dX10_grows_103 : decode cX10_grows 103 = .ok (.if_icmp .le 22, 3) := by decide +kernel
theorem dX10_grows_106 : decode cX10_grows 106 = .ok (.aload_n 0, 1) := by decide +kernel
theorem dX10_grows_107 : decode cX10_grows 107 = .ok (.getfield 23, 3) := by decide +kernel
theorem dX10_grows_110 : decode cX10_grows 110 = .ok (.iload_n 2, 1) := by decide +kernel
theorem dX10_grows_111 : decode cX10_grows 111 = .ok (.invokestatic 87, 3) := by decide +kernel
theorem dX10_grows_114 : decode cX10_grows 114 = .ok (.iload_n 2, 1) := by decide +kernel
theorem dX10_grows_115 : decode cX10_grows 115 = .ok (.iload_n 2, 1) := by decide +kernel
theorem dX10_grows_116 : decode cX10_grows 116 = .ok (.iconst 1, 1) := by decide +kernel
theorem dX10_grows_117 : decode cX10_grows 117 = .ok (.isub, 1) := by decide +kernel
theorem dX10_grows_118 : decode cX10_grows 118 = .ok (.iand, 1) := by decide +kernel
theorem dX10_grows_119 : decode cX10_grows 119 = .ok (.invokestatic 87, 3) := by decide +kernel
theorem dX10_grows_122 : decode cX10_grows 122 = .ok (.invokestatic 205, 3) := by decide +kernel
theorem dX10_grows_125 : decode cX10_grows 125 = .ok (.return_, 1) := by decide +kernel
theorem dX10_isAhead_0 : decode cX10_isAhead 0 = .ok (.iload_n 2, 1) := by decide +kernel
theorem dX10_isAhead_1 : decode cX10_isAhead 1 = .ok (.istore 4, 2) := by decide +kernel
theorem dX10_isAhead_3 : decode cX10_isAhead 3 = .ok (.iload 4, 2) := by decide +kernel
theorem dX10_isAhead_5 : decode cX10_isAhead 5 = .ok (.iload_n 3, 1) := by decide +kernel
theorem dX10_isAhead_6 : decode cX10_isAhead 6 = .ok (.invokestatic 215, 3) := by decide +kernel
theorem dX10_isAhead_9 : decode cX10_isAhead 9 = .ok (.if_icmp .ge 22, 3) := by decide +kernel
theorem dX10_isAhead_12 : decode cX10_isAhead 12 = .ok (.aload_n 0, 1) := by decide +kernel
theorem dX10_isAhead_13 : decode cX10_isAhead 13 = .ok (.getfield 44, 3) := by decide +kernel
theorem dX10_isAhead_16 : decode cX10_isAhead 16 = .ok (.iload 4, 2) := by decide +kernel
theorem dX10_isAhead_18 : decode cX10_isAhead 18 = .ok (.iaload, 1) := by decide +kernel
theorem dX10_isAhead_19 : decode cX10_isAhead 19 = .ok (.iload_n 1, 1) := by decide +kernel
theorem dX10_isAhead_20 : decode cX10_isAhead 20 = .ok (.if_icmp .ne 5, 3) := by decide +kernel
theorem dX10_isAhead_23 : decode cX10_isAhead 23 = .ok (.iconst 1, 1) := by decide +kernel
theorem dX10_isAhead_24 : decode cX10_isAhead 24 = .ok (.ireturn, 1) := by decide +kernel
theorem dX10_isAhead_25 : decode cX10_isAhead 25 = .ok (.iinc 4 1, 3) := by decide +kernel
theorem dX10_isAhead_28 : decode cX10_isAhead 28 = .ok (.goto (-25), 3) := by decide +kernel
theorem dX10_isAhead_31 : decode cX10_isAhead 31 = .ok (.iconst 0, 1) := by decide +kernel
theorem dX10_isAhead_32 : decode cX10_isAhead 32 = .ok (.ireturn, 1) := by decide +kernel
theorem dX10_hasEdges_0 : decode cX10_hasEdges 0 = .ok (.iconst 0, 1) := by decide +kernel
theorem dX10_hasEdges_1 : decode cX10_hasEdges 1 = .ok (.istore_n 1, 1) := by decide +kernel
theorem dX10_hasEdges_2 : decode cX10_hasEdges 2 = .ok (.iload_n 1, 1) := by decide +kernel
theorem dX10_hasEdges_3 : decode cX10_hasEdges 3 = .ok (.aload_n 0, 1) := by decide +kernel
theorem dX10_hasEdges_4 : decode cX10_hasEdges 4 = .ok (.getfield 60, 3) := by decide +kernel
theorem dX10_hasEdges_7 : decode cX10_hasEdges 7 = .ok (.if_icmp .ge 20, 3) := by decide +kernel
theorem dX10_hasEdges_10 : decode cX10_hasEdges 10 = .ok (.aload_n 0, 1) := by decide +kernel
theorem dX10_hasEdges_11 : decode cX10_hasEdges 11 = .ok (.getfield 23, 3) := by decide +kernel
theorem dX10_hasEdges_14 : decode cX10_hasEdges 14 = .ok (.iload_n 1, 1) := by decide +kernel
theorem dX10_hasEdges_15 : decode cX10_hasEdges 15 = .ok (.iaload, 1) := by decide +kernel
theorem dX10_hasEdges_16 : decode cX10_hasEdges 16 = .ok (.ifCond .eq 5, 3) := by decide +kernel
theorem dX10_hasEdges_19 : decode cX10_hasEdges 19 = .ok (.iconst 1, 1) := by decide +kernel
theorem dX10_hasEdges_20 : decode cX10_hasEdges 20 = .ok (.ireturn, 1) := by decide +kernel
theorem dX10_hasEdges_21 : decode cX10_hasEdges 21 = .ok (.iinc 1 1, 3) := by decide +kernel
theorem dX10_hasEdges_24 : decode cX10_hasEdges 24 = .ok (.goto (-22), 3) := by decide +kernel
theorem dX10_hasEdges_27 : decode cX10_hasEdges 27 = .ok (.iconst 0, 1) := by decide +kernel
theorem dX10_hasEdges_28 : decode cX10_hasEdges 28 = .ok (.ireturn, 1) := by decide +kernel
theorem dX10_readsCode_0 : decode cX10_readsCode 0 = .ok (.aload_n 0, 1) := by decide +kernel
theorem dX10_readsCode_1 : decode cX10_readsCode 1 = .ok (.invokevirtual 221, 3) := by decide +kernel
theorem dX10_readsCode_4 : decode cX10_readsCode 4 = .ok (.ifCond .eq 9, 3) := by decide +kernel
theorem dX10_readsCode_7 : decode cX10_readsCode 7 = .ok (.aload_n 0, 1) := by decide +kernel
theorem dX10_readsCode_8 : decode cX10_readsCode 8 = .ok (.iconst 4, 1) := by decide +kernel
theorem dX10_readsCode_9 : decode cX10_readsCode 9 = .ok (.invokevirtual 196, 3) := by decide +kernel
theorem dX10_readsCode_12 : decode cX10_readsCode 12 = .ok (.ireturn, 1) := by decide +kernel
theorem dX10_readsCode_13 : decode cX10_readsCode 13 = .ok (.aload_n 0, 1) := by decide +kernel
theorem dX10_readsCode_14 : decode cX10_readsCode 14 = .ok (.invokevirtual 202, 3) := by decide +kernel
theorem dX10_readsCode_17 : decode cX10_readsCode 17 = .ok (.iconst 0, 1) := by decide +kernel
theorem dX10_readsCode_18 : decode cX10_readsCode 18 = .ok (.istore_n 1, 1) := by decide +kernel
theorem dX10_readsCode_19 : decode cX10_readsCode 19 = .ok (.aload_n 0, 1) := by decide +kernel
theorem dX10_readsCode_20 : decode cX10_readsCode 20 = .ok (.getfield 169, 3) := by decide +kernel
theorem dX10_readsCode_23 : decode cX10_readsCode 23 = .ok (.iconst 3, 1) := by decide +kernel
theorem dX10_readsCode_24 : decode cX10_readsCode 24 = .ok (.if_icmp .ne 57, 3) := by decide +kernel
theorem dX10_readsCode_27 : decode cX10_readsCode 27 = .ok (.iload_n 1, 1) := by decide +kernel
theorem dX10_readsCode_28 : decode cX10_readsCode 28 = .ok (.aload_n 0, 1) := by decide +kernel
theorem dX10_readsCode_29 : decode cX10_readsCode 29 = .ok (.getfield 60, 3) := by decide +kernel
theorem dX10_readsCode_32 : decode cX10_readsCode 32 = .ok (.invokestatic 215, 3) := by decide +kernel
theorem dX10_readsCode_35 : decode cX10_readsCode 35 = .ok (.if_icmp .ne 9, 3) := by decide +kernel
theorem dX10_readsCode_38 : decode cX10_readsCode 38 = .ok (.aload_n 0, 1) := by decide +kernel
theorem dX10_readsCode_39 : decode cX10_readsCode 39 = .ok (.iconst 1, 1) := by decide +kernel
theorem dX10_readsCode_40 : decode cX10_readsCode 40 = .ok (.invokevirtual 196, 3) := by decide +kernel
theorem dX10_readsCode_43 : decode cX10_readsCode 43 = .ok (.ireturn, 1) := by decide +kernel
theorem dX10_readsCode_44 : decode cX10_readsCode 44 = .ok (.aload_n 0, 1) := by decide +kernel
theorem dX10_readsCode_45 : decode cX10_readsCode 45 = .ok (.getfield 178, 3) := by decide +kernel
theorem dX10_readsCode_48 : decode cX10_readsCode 48 = .ok (.aload_n 0, 1) := by decide +kernel
theorem dX10_readsCode_49 : decode cX10_readsCode 49 = .ok (.getfield 60, 3) := by decide +kernel
theorem dX10_readsCode_52 : decode cX10_readsCode 52 = .ok (.if_icmp .lt 9, 3) := by decide +kernel
theorem dX10_readsCode_55 : decode cX10_readsCode 55 = .ok (.aload_n 0, 1) := by decide +kernel
theorem dX10_readsCode_56 : decode cX10_readsCode 56 = .ok (.iconst 2, 1) := by decide +kernel
theorem dX10_readsCode_57 : decode cX10_readsCode 57 = .ok (.invokevirtual 196, 3) := by decide +kernel
theorem dX10_readsCode_60 : decode cX10_readsCode 60 = .ok (.ireturn, 1) := by decide +kernel
theorem dX10_readsCode_61 : decode cX10_readsCode 61 = .ok (.aload_n 0, 1) := by decide +kernel
theorem dX10_readsCode_62 : decode cX10_readsCode 62 = .ok (.getfield 44, 3) := by decide +kernel
theorem dX10_readsCode_65 : decode cX10_readsCode 65 = .ok (.iload_n 1, 1) := by decide +kernel
theorem dX10_readsCode_66 : decode cX10_readsCode 66 = .ok (.aload_n 0, 1) := by decide +kernel
theorem dX10_readsCode_67 : decode cX10_readsCode 67 = .ok (.getfield 178, 3) := by decide +kernel
theorem dX10_readsCode_70 : decode cX10_readsCode 70 = .ok (.iastore, 1) := by decide +kernel
theorem dX10_readsCode_71 : decode cX10_readsCode 71 = .ok (.iinc 1 1, 3) := by decide +kernel
theorem dX10_readsCode_74 : decode cX10_readsCode 74 = .ok (.aload_n 0, 1) := by decide +kernel
theorem dX10_readsCode_75 : decode cX10_readsCode 75 = .ok (.invokevirtual 202, 3) := by decide +kernel
theorem dX10_readsCode_78 : decode cX10_readsCode 78 = .ok (.goto (-59), 3) := by decide +kernel
theorem dX10_readsCode_81 : decode cX10_readsCode 81 = .ok (.iload_n 1, 1) := by decide +kernel
theorem dX10_readsCode_82 : decode cX10_readsCode 82 = .ok (.aload_n 0, 1) := by decide +kernel
theorem dX10_readsCode_83 : decode cX10_readsCode 83 = .ok (.getfield 60, 3) := by decide +kernel
theorem dX10_readsCode_86 : decode cX10_readsCode 86 = .ok (.invokestatic 215, 3) := by decide +kernel
theorem dX10_readsCode_89 : decode cX10_readsCode 89 = .ok (.if_icmp .ge 9, 3) := by decide +kernel
theorem dX10_readsCode_92 : decode cX10_readsCode 92 = .ok (.aload_n 0, 1) := by decide +kernel
theorem dX10_readsCode_93 : decode cX10_readsCode 93 = .ok (.iconst 1, 1) := by decide +kernel
theorem dX10_readsCode_94 : decode cX10_readsCode 94 = .ok (.invokevirtual 196, 3) := by decide +kernel
theorem dX10_readsCode_97 : decode cX10_readsCode 97 = .ok (.ireturn, 1) := by decide +kernel
theorem dX10_readsCode_98 : decode cX10_readsCode 98 = .ok (.aload_n 0, 1) := by decide +kernel
theorem dX10_readsCode_99 : decode cX10_readsCode 99 = .ok (.getfield 169, 3) := by decide +kernel
theorem dX10_readsCode_102 : decode cX10_readsCode 102 = .ok (.iconst 4, 1) := by decide +kernel
theorem dX10_readsCode_103 : decode cX10_readsCode 103 = .ok (.if_icmp .eq 9, 3) := by decide +kernel
theorem dX10_readsCode_106 : decode cX10_readsCode 106 = .ok (.aload_n 0, 1) := by decide +kernel
theorem dX10_readsCode_107 : decode cX10_readsCode 107 = .ok (.iconst 1, 1) := by decide +kernel
theorem dX10_readsCode_108 : decode cX10_readsCode 108 = .ok (.invokevirtual 196, 3) := by decide +kernel
theorem dX10_readsCode_111 : decode cX10_readsCode 111 = .ok (.ireturn, 1) := by decide +kernel
theorem dX10_readsCode_112 : decode cX10_readsCode 112 = .ok (.aload_n 0, 1) := by decide +kernel
theorem dX10_readsCode_113 : decode cX10_readsCode 113 = .ok (.aload_n 0, 1) := by decide +kernel
theorem dX10_readsCode_114 : decode cX10_readsCode 114 = .ok (.getfield 60, 3) := by decide +kernel
theorem dX10_readsCode_117 : decode cX10_readsCode 117 = .ok (.invokevirtual 225, 3) := by decide +kernel
theorem dX10_readsCode_120 : decode cX10_readsCode 120 = .ok (.iconst 1, 1) := by decide +kernel
theorem dX10_readsCode_121 : decode cX10_readsCode 121 = .ok (.ireturn, 1) := by decide +kernel
theorem dX10_readsWeight_0 : decode cX10_readsWeight 0 = .ok (.aload_n 0, 1) := by decide +kernel
theorem dX10_readsWeight_1 : decode cX10_readsWeight 1 = .ok (.invokevirtual 202, 3) := by decide +kernel
theorem dX10_readsWeight_4 : decode cX10_readsWeight 4 = .ok (.aload_n 0, 1) := by decide +kernel
theorem dX10_readsWeight_5 : decode cX10_readsWeight 5 = .ok (.iconst 0, 1) := by decide +kernel
theorem dX10_readsWeight_6 : decode cX10_readsWeight 6 = .ok (.aload_n 0, 1) := by decide +kernel
theorem dX10_readsWeight_7 : decode cX10_readsWeight 7 = .ok (.getfield 60, 3) := by decide +kernel
theorem dX10_readsWeight_10 : decode cX10_readsWeight 10 = .ok (.iconst 1, 1) := by decide +kernel
theorem dX10_readsWeight_11 : decode cX10_readsWeight 11 = .ok (.isub, 1) := by decide +kernel
theorem dX10_readsWeight_12 : decode cX10_readsWeight 12 = .ok (.invokevirtual 209, 3) := by decide +kernel
theorem dX10_readsWeight_15 : decode cX10_readsWeight 15 = .ok (.ifCond .ne 5, 3) := by decide +kernel
theorem dX10_readsWeight_18 : decode cX10_readsWeight 18 = .ok (.iconst 0, 1) := by decide +kernel
theorem dX10_readsWeight_19 : decode cX10_readsWeight 19 = .ok (.ireturn, 1) := by decide +kernel
theorem dX10_readsWeight_20 : decode cX10_readsWeight 20 = .ok (.aload_n 0, 1) := by decide +kernel
theorem dX10_readsWeight_21 : decode cX10_readsWeight 21 = .ok (.getfield 199, 3) := by decide +kernel
theorem dX10_readsWeight_24 : decode cX10_readsWeight 24 = .ok (.istore_n 1, 1) := by decide +kernel
theorem dX10_readsWeight_25 : decode cX10_readsWeight 25 = .ok (.aload_n 0, 1) := by decide +kernel
theorem dX10_readsWeight_26 : decode cX10_readsWeight 26 = .ok (.iconst 0, 1) := by decide +kernel
theorem dX10_readsWeight_27 : decode cX10_readsWeight 27 = .ok (.bipush 99, 2) := by decide +kernel
theorem dX10_readsWeight_29 : decode cX10_readsWeight 29 = .ok (.invokevirtual 209, 3) := by decide +kernel
theorem dX10_readsWeight_32 : decode cX10_readsWeight 32 = .ok (.ifCond .ne 5, 3) := by decide +kernel
theorem dX10_readsWeight_35 : decode cX10_readsWeight 35 = .ok (.iconst 0, 1) := by decide +kernel
theorem dX10_readsWeight_36 : decode cX10_readsWeight 36 = .ok (.ireturn, 1) := by decide +kernel
theorem dX10_readsWeight_37 : decode cX10_readsWeight 37 = .ok (.aload_n 0, 1) := by decide +kernel
theorem dX10_readsWeight_38 : decode cX10_readsWeight 38 = .ok (.getfield 23, 3) := by decide +kernel
theorem dX10_readsWeight_41 : decode cX10_readsWeight 41 = .ok (.bipush 10, 2) := by decide +kernel
theorem dX10_readsWeight_43 : decode cX10_readsWeight 43 = .ok (.iload_n 1, 1) := by decide +kernel
theorem dX10_readsWeight_44 : decode cX10_readsWeight 44 = .ok (.iadd, 1) := by decide +kernel
theorem dX10_readsWeight_45 : decode cX10_readsWeight 45 = .ok (.aload_n 0, 1) := by decide +kernel
theorem dX10_readsWeight_46 : decode cX10_readsWeight 46 = .ok (.getfield 199, 3) := by decide +kernel
theorem dX10_readsWeight_49 : decode cX10_readsWeight 49 = .ok (.iastore, 1) := by decide +kernel
theorem dX10_readsWeight_50 : decode cX10_readsWeight 50 = .ok (.iconst 1, 1) := by decide +kernel
theorem dX10_readsWeight_51 : decode cX10_readsWeight 51 = .ok (.ireturn, 1) := by decide +kernel
theorem dX10_readsStatement_0 : decode cX10_readsStatement 0 = .ok (.aload_n 0, 1) := by decide +kernel
theorem dX10_readsStatement_1 : decode cX10_readsStatement 1 = .ok (.ldc 228, 2) := by decide +kernel
theorem dX10_readsStatement_3 : decode cX10_readsStatement 3 = .ok (.invokevirtual 230, 3) := by decide +kernel
theorem dX10_readsStatement_6 : decode cX10_readsStatement 6 = .ok (.ifCond .eq 10, 3) := by decide +kernel
theorem dX10_readsStatement_9 : decode cX10_readsStatement 9 = .ok (.aload_n 0, 1) := by decide +kernel
theorem dX10_readsStatement_10 : decode cX10_readsStatement 10 = .ok (.iconst 1, 1) := by decide +kernel
theorem dX10_readsStatement_11 : decode cX10_readsStatement 11 = .ok (.iconst 1, 1) := by decide +kernel
theorem dX10_readsStatement_12 : decode cX10_readsStatement 12 = .ok (.invokevirtual 234, 3) := by decide +kernel
theorem dX10_readsStatement_15 : decode cX10_readsStatement 15 = .ok (.ireturn, 1) := by decide +kernel
theorem dX10_readsStatement_16 : decode cX10_readsStatement 16 = .ok (.aload_n 0, 1) := by decide +kernel
theorem dX10_readsStatement_17 : decode cX10_readsStatement 17 = .ok (.ldc 238, 2) := by decide +kernel
theorem dX10_readsStatement_19 : decode cX10_readsStatement 19 = .ok (.invokevirtual 230, 3) := by decide +kernel
theorem dX10_readsStatement_22 : decode cX10_readsStatement 22 = .ok (.ifCond .eq 10, 3) := by decide +kernel
theorem dX10_readsStatement_25 : decode cX10_readsStatement 25 = .ok (.aload_n 0, 1) := by decide +kernel
theorem dX10_readsStatement_26 : decode cX10_readsStatement 26 = .ok (.iconst 1, 1) := by decide +kernel
theorem dX10_readsStatement_27 : decode cX10_readsStatement 27 = .ok (.iconst 0, 1) := by decide +kernel
theorem dX10_readsStatement_28 : decode cX10_readsStatement 28 = .ok (.invokevirtual 234, 3) := by decide +kernel
theorem dX10_readsStatement_31 : decode cX10_readsStatement 31 = .ok (.ireturn, 1) := by decide +kernel
theorem dX10_readsStatement_32 : decode cX10_readsStatement 32 = .ok (.aload_n 0, 1) := by decide +kernel
theorem dX10_readsStatement_33 : decode cX10_readsStatement 33 = .ok (.ldc 240, 2) := by decide +kernel
theorem dX10_readsStatement_35 : decode cX10_readsStatement 35 = .ok (.invokevirtual 230, 3) := by decide +kernel
theorem dX10_readsStatement_38 : decode cX10_readsStatement 38 = .ok (.ifCond .eq 10, 3) := by decide +kernel
theorem dX10_readsStatement_41 : decode cX10_readsStatement 41 = .ok (.aload_n 0, 1) := by decide +kernel
theorem dX10_readsStatement_42 : decode cX10_readsStatement 42 = .ok (.iconst 0, 1) := by decide +kernel
theorem dX10_readsStatement_43 : decode cX10_readsStatement 43 = .ok (.iconst 0, 1) := by decide +kernel
theorem dX10_readsStatement_44 : decode cX10_readsStatement 44 = .ok (.invokevirtual 234, 3) := by decide +kernel
theorem dX10_readsStatement_47 : decode cX10_readsStatement 47 = .ok (.ireturn, 1) := by decide +kernel
theorem dX10_readsStatement_48 : decode cX10_readsStatement 48 = .ok (.aload_n 0, 1) := by decide +kernel
theorem dX10_readsStatement_49 : decode cX10_readsStatement 49 = .ok (.ldc 242, 2) := by decide +kernel
theorem dX10_readsStatement_51 : decode cX10_readsStatement 51 = .ok (.invokevirtual 230, 3) := by decide +kernel
theorem dX10_readsStatement_54 : decode cX10_readsStatement 54 = .ok (.ifCond .eq 8, 3) := by decide +kernel
theorem dX10_readsStatement_57 : decode cX10_readsStatement 57 = .ok (.aload_n 0, 1) := by decide +kernel
theorem dX10_readsStatement_58 : decode cX10_readsStatement 58 = .ok (.invokevirtual 243, 3) := by decide +kernel
theorem dX10_readsStatement_61 : decode cX10_readsStatement 61 = .ok (.ireturn, 1) := by decide +kernel
theorem dX10_readsStatement_62 : decode cX10_readsStatement 62 = .ok (.aload_n 0, 1) := by decide +kernel
theorem dX10_readsStatement_63 : decode cX10_readsStatement 63 = .ok (.ldc 246, 2) := by decide +kernel
theorem dX10_readsStatement_65 : decode cX10_readsStatement 65 = .ok (.invokevirtual 230, 3) := by decide +kernel
theorem dX10_readsStatement_68 : decode cX10_readsStatement 68 = .ok (.ifCond .eq 10, 3) := by decide +kernel
theorem dX10_readsStatement_71 : decode cX10_readsStatement 71 = .ok (.aload_n 0, 1) := by decide +kernel
theorem dX10_readsStatement_72 : decode cX10_readsStatement 72 = .ok (.invokevirtual 248, 3) := by decide +kernel
theorem dX10_readsStatement_75 : decode cX10_readsStatement 75 = .ok (.goto 8, 3) := by decide +kernel
theorem dX10_readsStatement_78 : decode cX10_readsStatement 78 = .ok (.aload_n 0, 1) := by decide +kernel
theorem dX10_readsStatement_79 : decode cX10_readsStatement 79 = .ok (.iconst 1, 1) := by decide +kernel
theorem dX10_readsStatement_80 : decode cX10_readsStatement 80 = .ok (.invokevirtual 196, 3) := by decide +kernel
theorem dX10_readsStatement_83 : decode cX10_readsStatement 83 = .ok (.ireturn, 1) := by decide +kernel
theorem dX10_ends_0 : decode cX10_ends 0 = .ok (.aload_n 0, 1) := by decide +kernel
theorem dX10_ends_1 : decode cX10_ends 1 = .ok (.getfield 169, 3) := by decide +kernel
theorem dX10_ends_4 : decode cX10_ends 4 = .ok (.iconst 4, 1) := by decide +kernel
theorem dX10_ends_5 : decode cX10_ends 5 = .ok (.if_icmp .eq 9, 3) := by decide +kernel
theorem dX10_ends_8 : decode cX10_ends 8 = .ok (.aload_n 0, 1) := by decide +kernel
theorem dX10_ends_9 : decode cX10_ends 9 = .ok (.iconst 1, 1) := by decide +kernel
theorem dX10_ends_10 : decode cX10_ends 10 = .ok (.invokevirtual 196, 3) := by decide +kernel
theorem dX10_ends_13 : decode cX10_ends 13 = .ok (.ireturn, 1) := by decide +kernel
theorem dX10_ends_14 : decode cX10_ends 14 = .ok (.aload_n 0, 1) := by decide +kernel
theorem dX10_ends_15 : decode cX10_ends 15 = .ok (.invokevirtual 202, 3) := by decide +kernel
theorem dX10_ends_18 : decode cX10_ends 18 = .ok (.iconst 1, 1) := by decide +kernel
theorem dX10_ends_19 : decode cX10_ends 19 = .ok (.ireturn, 1) := by decide +kernel
theorem dX10_readsAll_0 : decode cX10_readsAll 0 = .ok (.aload_n 0, 1) := by decide +kernel
theorem dX10_readsAll_1 : decode cX10_readsAll 1 = .ok (.invokevirtual 202, 3) := by decide +kernel
theorem dX10_readsAll_4 : decode cX10_readsAll 4 = .ok (.aload_n 0, 1) := by decide +kernel
theorem dX10_readsAll_5 : decode cX10_readsAll 5 = .ok (.ldc 251, 2) := by decide +kernel
theorem dX10_readsAll_7 : decode cX10_readsAll 7 = .ok (.invokevirtual 230, 3) := by decide +kernel
theorem dX10_readsAll_10 : decode cX10_readsAll 10 = .ok (.ifCond .ne 9, 3) := by decide +kernel
theorem dX10_readsAll_13 : decode cX10_readsAll 13 = .ok (.aload_n 0, 1) := by decide +kernel
theorem dX10_readsAll_14 : decode cX10_readsAll 14 = .ok (.iconst 1, 1) := by decide +kernel
theorem dX10_readsAll_15 : decode cX10_readsAll 15 = .ok (.invokevirtual 196, 3) := by decide +kernel
theorem dX10_readsAll_18 : decode cX10_readsAll 18 = .ok (.ireturn, 1) := by decide +kernel
theorem dX10_readsAll_19 : decode cX10_readsAll 19 = .ok (.aload_n 0, 1) := by decide +kernel
theorem dX10_readsAll_20 : decode cX10_readsAll 20 = .ok (.invokevirtual 202, 3) := by decide +kernel
theorem dX10_readsAll_23 : decode cX10_readsAll 23 = .ok (.aload_n 0, 1) := by decide +kernel
theorem dX10_readsAll_24 : decode cX10_readsAll 24 = .ok (.iconst 1, 1) := by decide +kernel
theorem dX10_readsAll_25 : decode cX10_readsAll 25 = .ok (.bipush 10, 2) := by decide +kernel
theorem dX10_readsAll_27 : decode cX10_readsAll 27 = .ok (.invokevirtual 209, 3) := by decide +kernel
theorem dX10_readsAll_30 : decode cX10_readsAll 30 = .ok (.ifCond .ne 5, 3) := by decide +kernel
theorem dX10_readsAll_33 : decode cX10_readsAll 33 = .ok (.iconst 0, 1) := by decide +kernel
theorem dX10_readsAll_34 : decode cX10_readsAll 34 = .ok (.ireturn, 1) := by decide +kernel
theorem dX10_readsAll_35 : decode cX10_readsAll 35 = .ok (.aload_n 0, 1) := by decide +kernel
theorem dX10_readsAll_36 : decode cX10_readsAll 36 = .ok (.aload_n 0, 1) := by decide +kernel
theorem dX10_readsAll_37 : decode cX10_readsAll 37 = .ok (.getfield 199, 3) := by decide +kernel
theorem dX10_readsAll_40 : decode cX10_readsAll 40 = .ok (.putfield 60, 3) := by decide +kernel
theorem dX10_readsAll_43 : decode cX10_readsAll 43 = .ok (.aload_n 0, 1) := by decide +kernel
theorem dX10_readsAll_44 : decode cX10_readsAll 44 = .ok (.invokevirtual 253, 3) := by decide +kernel
theorem dX10_readsAll_47 : decode cX10_readsAll 47 = .ok (.ifCond .ne 5, 3) := by decide +kernel
theorem dX10_readsAll_50 : decode cX10_readsAll 50 = .ok (.iconst 0, 1) := by decide +kernel
theorem dX10_readsAll_51 : decode cX10_readsAll 51 = .ok (.ireturn, 1) := by decide +kernel
theorem dX10_readsAll_52 : decode cX10_readsAll 52 = .ok (.iconst 0, 1) := by decide +kernel
theorem dX10_readsAll_53 : decode cX10_readsAll 53 = .ok (.istore_n 1, 1) := by decide +kernel
theorem dX10_readsAll_54 : decode cX10_readsAll 54 = .ok (.iload_n 1, 1) := by decide +kernel
theorem dX10_readsAll_55 : decode cX10_readsAll 55 = .ok (.bipush 10, 2) := by decide +kernel
theorem dX10_readsAll_57 : decode cX10_readsAll 57 = .ok (.if_icmp .ge 38, 3) := by decide +kernel
theorem dX10_readsAll_60 : decode cX10_readsAll 60 = .ok (.aload_n 0, 1) := by decide +kernel
theorem dX10_readsAll_61 : decode cX10_readsAll 61 = .ok (.getfield 23, 3) := by decide +kernel
theorem dX10_readsAll_64 : decode cX10_readsAll 64 = .ok (.iload_n 1, 1) := by decide +kernel
theorem dX10_readsAll_65 : decode cX10_readsAll 65 = .ok (.iconst 0, 1) := by decide +kernel
theorem dX10_readsAll_66 : decode cX10_readsAll 66 = .ok (.iastore, 1) := by decide +kernel
theorem dX10_readsAll_67 : decode cX10_readsAll 67 = .ok (.aload_n 0, 1) := by decide +kernel
theorem dX10_readsAll_68 : decode cX10_readsAll 68 = .ok (.getfield 23, 3) := by decide +kernel
theorem dX10_readsAll_71 : decode cX10_readsAll 71 = .ok (.bipush 10, 2) := by decide +kernel
theorem dX10_readsAll_73 : decode cX10_readsAll 73 = .ok (.iload_n 1, 1) := by decide +kernel
theorem dX10_readsAll_74 : decode cX10_readsAll 74 = .ok (.iadd, 1) := by decide +kernel
theorem dX10_readsAll_75 : decode cX10_readsAll 75 = .ok (.iload_n 1, 1) := by decide +kernel
theorem dX10_readsAll_76 : decode cX10_readsAll 76 = .ok (.aload_n 0, 1) := by decide +kernel
theorem dX10_readsAll_77 : decode cX10_readsAll 77 = .ok (.getfield 60, 3) := by decide +kernel
theorem dX10_readsAll_80 : decode cX10_readsAll 80 = .ok (.if_icmp .ge 7, 3) := by decide +kernel
theorem dX10_readsAll_83 : decode cX10_readsAll 83 = .ok (.iconst 1, 1) := by decide +kernel
theorem dX10_readsAll_84 : decode cX10_readsAll 84 = .ok (.goto 4, 3) := by decide +kernel
theorem dX10_readsAll_87 : decode cX10_readsAll 87 = .ok (.iconst 0, 1) := by decide +kernel
theorem dX10_readsAll_88 : decode cX10_readsAll 88 = .ok (.iastore, 1) := by decide +kernel
theorem dX10_readsAll_89 : decode cX10_readsAll 89 = .ok (.iinc 1 1, 3) := by decide +kernel
theorem dX10_readsAll_92 : decode cX10_readsAll 92 = .ok (.goto (-38), 3) := by decide +kernel
theorem dX10_readsAll_95 : decode cX10_readsAll 95 = .ok (.aload_n 0, 1) := by decide +kernel
theorem dX10_readsAll_96 : decode cX10_readsAll 96 = .ok (.getfield 169, 3) := by decide +kernel
theorem dX10_readsAll_99 : decode cX10_readsAll 99 = .ok (.ifCond .eq 19, 3) := by decide +kernel
theorem dX10_readsAll_102 : decode cX10_readsAll 102 = .ok (.aload_n 0, 1) := by decide +kernel
theorem dX10_readsAll_103 : decode cX10_readsAll 103 = .ok (.invokevirtual 256, 3) := by decide +kernel
theorem dX10_readsAll_106 : decode cX10_readsAll 106 = .ok (.ifCond .eq 10, 3) := by decide +kernel
theorem dX10_readsAll_109 : decode cX10_readsAll 109 = .ok (.aload_n 0, 1) := by decide +kernel
theorem dX10_readsAll_110 : decode cX10_readsAll 110 = .ok (.invokevirtual 253, 3) := by decide +kernel
theorem dX10_readsAll_113 : decode cX10_readsAll 113 = .ok (.ifCond .ne (-18), 3) := by decide +kernel
theorem dX10_readsAll_116 : decode cX10_readsAll 116 = .ok (.iconst 0, 1) := by decide +kernel
theorem dX10_readsAll_117 : decode cX10_readsAll 117 = .ok (.ireturn, 1) := by decide +kernel
theorem dX10_readsAll_118 : decode cX10_readsAll 118 = .ok (.iconst 1, 1) := by decide +kernel
theorem dX10_readsAll_119 : decode cX10_readsAll 119 = .ok (.ireturn, 1) := by decide +kernel
theorem dX10_load_0 : decode cX10_load 0 = .ok (.aload_n 0, 1) := by decide +kernel
theorem dX10_load_1 : decode cX10_load 1 = .ok (.iconst 0, 1) := by decide +kernel
theorem dX10_load_2 : decode cX10_load 2 = .ok (.putfield 1, 3) := by decide +kernel
theorem dX10_load_5 : decode cX10_load 5 = .ok (.aload_n 0, 1) := by decide +kernel
theorem dX10_load_6 : decode cX10_load 6 = .ok (.aload_n 0, 1) := by decide +kernel
theorem dX10_load_7 : decode cX10_load 7 = .ok (.getfield 146, 3) := by decide +kernel
theorem dX10_load_10 : decode cX10_load 10 = .ok (.putfield 157, 3) := by decide +kernel
theorem dX10_load_13 : decode cX10_load 13 = .ok (.aload_n 0, 1) := by decide +kernel
theorem dX10_load_14 : decode cX10_load 14 = .ok (.iconst 0, 1) := by decide +kernel
theorem dX10_load_15 : decode cX10_load 15 = .ok (.putfield 146, 3) := by decide +kernel
theorem dX10_load_18 : decode cX10_load 18 = .ok (.aload_n 0, 1) := by decide +kernel
theorem dX10_load_19 : decode cX10_load 19 = .ok (.iconst 0, 1) := by decide +kernel
theorem dX10_load_20 : decode cX10_load 20 = .ok (.putfield 160, 3) := by decide +kernel
theorem dX10_load_23 : decode cX10_load 23 = .ok (.aload_n 0, 1) := by decide +kernel
theorem dX10_load_24 : decode cX10_load 24 = .ok (.iconst 1, 1) := by decide +kernel
theorem dX10_load_25 : decode cX10_load 25 = .ok (.putfield 56, 3) := by decide +kernel
theorem dX10_load_28 : decode cX10_load 28 = .ok (.aload_n 0, 1) := by decide +kernel
theorem dX10_load_29 : decode cX10_load 29 = .ok (.invokevirtual 259, 3) := by decide +kernel
theorem dX10_load_32 : decode cX10_load 32 = .ok (.istore_n 1, 1) := by decide +kernel
theorem dX10_load_33 : decode cX10_load 33 = .ok (.aload_n 0, 1) := by decide +kernel
theorem dX10_load_34 : decode cX10_load 34 = .ok (.iconst 0, 1) := by decide +kernel
theorem dX10_load_35 : decode cX10_load 35 = .ok (.putfield 56, 3) := by decide +kernel
theorem dX10_load_38 : decode cX10_load 38 = .ok (.iload_n 1, 1) := by decide +kernel
theorem dX10_load_39 : decode cX10_load 39 = .ok (.ifCond .ne 17, 3) := by decide +kernel
theorem dX10_load_42 : decode cX10_load 42 = .ok (.bipush 8, 2) := by decide +kernel
theorem dX10_load_44 : decode cX10_load 44 = .ok (.aload_n 0, 1) := by decide +kernel
theorem dX10_load_45 : decode cX10_load 45 = .ok (.getfield 193, 3) := by decide +kernel
theorem dX10_load_48 : decode cX10_load 48 = .ok (.imul, 1) := by decide +kernel
theorem dX10_load_49 : decode cX10_load 49 = .ok (.aload_n 0, 1) := by decide +kernel
theorem dX10_load_50 : decode cX10_load 50 = .ok (.getfield 190, 3) := by decide +kernel
theorem dX10_load_53 : decode cX10_load 53 = .ok (.iadd, 1) := by decide +kernel
theorem dX10_load_54 : decode cX10_load 54 = .ok (.ineg, 1) := by decide +kernel
theorem dX10_load_55 : decode cX10_load 55 = .ok (.ireturn, 1) := by decide +kernel
theorem dX10_load_56 : decode cX10_load 56 = .ok (.aload_n 0, 1) := by decide +kernel
theorem dX10_load_57 : decode cX10_load 57 = .ok (.aload_n 0, 1) := by decide +kernel
theorem dX10_load_58 : decode cX10_load 58 = .ok (.getfield 60, 3) := by decide +kernel
theorem dX10_load_61 : decode cX10_load 61 = .ok (.putfield 35, 3) := by decide +kernel
theorem dX10_load_64 : decode cX10_load 64 = .ok (.iconst 0, 1) := by decide +kernel
theorem dX10_load_65 : decode cX10_load 65 = .ok (.istore_n 2, 1) := by decide +kernel
theorem dX10_load_66 : decode cX10_load 66 = .ok (.iload_n 2, 1) := by decide +kernel
theorem dX10_load_67 : decode cX10_load 67 = .ok (.bipush 20, 2) := by decide +kernel
theorem dX10_load_69 : decode cX10_load 69 = .ok (.if_icmp .ge 21, 3) := by decide +kernel
theorem dX10_load_72 : decode cX10_load 72 = .ok (.aload_n 0, 1) := by decide +kernel
theorem dX10_load_73 : decode cX10_load 73 = .ok (.getfield 19, 3) := by decide +kernel
theorem dX10_load_76 : decode cX10_load 76 = .ok (.iload_n 2, 1) := by decide +kernel
theorem dX10_load_77 : decode cX10_load 77 = .ok (.aload_n 0, 1) := by decide +kernel
theorem dX10_load_78 : decode cX10_load 78 = .ok (.getfield 23, 3) := by decide +kernel
theorem dX10_load_81 : decode cX10_load 81 = .ok (.iload_n 2, 1) := by decide +kernel
theorem dX10_load_82 : decode cX10_load 82 = .ok (.iaload, 1) := by decide +kernel
theorem dX10_load_83 : decode cX10_load 83 = .ok (.iastore, 1) := by decide +kernel
theorem dX10_load_84 : decode cX10_load 84 = .ok (.iinc 2 1, 3) := by decide +kernel
theorem dX10_load_87 : decode cX10_load 87 = .ok (.goto (-21), 3) := by decide +kernel
theorem dX10_load_90 : decode cX10_load 90 = .ok (.iconst 0, 1) := by decide +kernel
theorem dX10_load_91 : decode cX10_load 91 = .ok (.istore_n 2, 1) := by decide +kernel
theorem dX10_load_92 : decode cX10_load 92 = .ok (.iload_n 2, 1) := by decide +kernel
theorem dX10_load_93 : decode cX10_load 93 = .ok (.bipush 10, 2) := by decide +kernel
theorem dX10_load_95 : decode cX10_load 95 = .ok (.if_icmp .ge 16, 3) := by decide +kernel
theorem dX10_load_98 : decode cX10_load 98 = .ok (.aload_n 0, 1) := by decide +kernel
theorem dX10_load_99 : decode cX10_load 99 = .ok (.getfield 32, 3) := by decide +kernel
theorem dX10_load_102 : decode cX10_load 102 = .ok (.iload_n 2, 1) := by decide +kernel
theorem dX10_load_103 : decode cX10_load 103 = .ok (.iconst 0, 1) := by decide +kernel
theorem dX10_load_104 : decode cX10_load 104 = .ok (.iastore, 1) := by decide +kernel
theorem dX10_load_105 : decode cX10_load 105 = .ok (.iinc 2 1, 3) := by decide +kernel
theorem dX10_load_108 : decode cX10_load 108 = .ok (.goto (-16), 3) := by decide +kernel
theorem dX10_load_111 : decode cX10_load 111 = .ok (.aload_n 0, 1) := by decide +kernel
theorem dX10_load_112 : decode cX10_load 112 = .ok (.iconst 0, 1) := by decide +kernel
theorem dX10_load_113 : decode cX10_load 113 = .ok (.putfield 63, 3) := by decide +kernel
theorem dX10_load_116 : decode cX10_load 116 = .ok (.aload_n 0, 1) := by decide +kernel
theorem dX10_load_117 : decode cX10_load 117 = .ok (.iconst 0, 1) := by decide +kernel
theorem dX10_load_118 : decode cX10_load 118 = .ok (.putfield 262, 3) := by decide +kernel
theorem dX10_load_121 : decode cX10_load 121 = .ok (.aload_n 0, 1) := by decide +kernel
theorem dX10_load_122 : decode cX10_load 122 = .ok (.invokevirtual 265, 3) := by decide +kernel
theorem dX10_load_125 : decode cX10_load 125 = .ok (.ireturn, 1) := by decide +kernel
theorem dX10_edges_0 : decode cX10_edges 0 = .ok (.iconst 0, 1) := by decide +kernel
theorem dX10_edges_1 : decode cX10_edges 1 = .ok (.istore_n 1, 1) := by decide +kernel
theorem dX10_edges_2 : decode cX10_edges 2 = .ok (.iconst 0, 1) := by decide +kernel
theorem dX10_edges_3 : decode cX10_edges 3 = .ok (.istore_n 2, 1) := by decide +kernel
theorem dX10_edges_4 : decode cX10_edges 4 = .ok (.iload_n 2, 1) := by decide +kernel
theorem dX10_edges_5 : decode cX10_edges 5 = .ok (.aload_n 0, 1) := by decide +kernel
theorem dX10_edges_6 : decode cX10_edges 6 = .ok (.getfield 35, 3) := by decide +kernel
theorem dX10_edges_9 : decode cX10_edges 9 = .ok (.if_icmp .ge 21, 3) := by decide +kernel
theorem dX10_edges_12 : decode cX10_edges 12 = .ok (.iload_n 1, 1) := by decide +kernel
theorem dX10_edges_13 : decode cX10_edges 13 = .ok (.aload_n 0, 1) := by decide +kernel
theorem dX10_edges_14 : decode cX10_edges 14 = .ok (.getfield 19, 3) := by decide +kernel
theorem dX10_edges_17 : decode cX10_edges 17 = .ok (.iload_n 2, 1) := by decide +kernel
theorem dX10_edges_18 : decode cX10_edges 18 = .ok (.iaload, 1) := by decide +kernel
theorem dX10_edges_19 : decode cX10_edges 19 = .ok (.invokestatic 111, 3) := by decide +kernel
theorem dX10_edges_22 : decode cX10_edges 22 = .ok (.iadd, 1) := by decide +kernel
theorem dX10_edges_23 : decode cX10_edges 23 = .ok (.istore_n 1, 1) := by decide +kernel
theorem dX10_edges_24 : decode cX10_edges 24 = .ok (.iinc 2 1, 3) := by decide +kernel
theorem dX10_edges_27 : decode cX10_edges 27 = .ok (.goto (-23), 3) := by decide +kernel
theorem dX10_edges_30 : decode cX10_edges 30 = .ok (.iload_n 1, 1) := by decide +kernel
theorem dX10_edges_31 : decode cX10_edges 31 = .ok (.iconst 2, 1) := by decide +kernel
theorem dX10_edges_32 : decode cX10_edges 32 = .ok (.idiv, 1) := by decide +kernel
theorem dX10_edges_33 : decode cX10_edges 33 = .ok (.ireturn, 1) := by decide +kernel
theorem dX10_isVertex_0 : decode cX10_isVertex 0 = .ok (.iload_n 1, 1) := by decide +kernel
theorem dX10_isVertex_1 : decode cX10_isVertex 1 = .ok (.iconst 0, 1) := by decide +kernel
theorem dX10_isVertex_2 : decode cX10_isVertex 2 = .ok (.aload_n 0, 1) := by decide +kernel
theorem dX10_isVertex_3 : decode cX10_isVertex 3 = .ok (.getfield 35, 3) := by decide +kernel
theorem dX10_isVertex_6 : decode cX10_isVertex 6 = .ok (.iconst 1, 1) := by decide +kernel
theorem dX10_isVertex_7 : decode cX10_isVertex 7 = .ok (.isub, 1) := by decide +kernel
theorem dX10_isVertex_8 : decode cX10_isVertex 8 = .ok (.invokestatic 153, 3) := by decide +kernel
theorem dX10_isVertex_11 : decode cX10_isVertex 11 = .ok (.ireturn, 1) := by decide +kernel
theorem dX10_forest_0 : decode cX10_forest 0 = .ok (.aload_n 0, 1) := by decide +kernel
theorem dX10_forest_1 : decode cX10_forest 1 = .ok (.iconst 0, 1) := by decide +kernel
theorem dX10_forest_2 : decode cX10_forest 2 = .ok (.putfield 1, 3) := by decide +kernel
theorem dX10_forest_5 : decode cX10_forest 5 = .ok (.iconst 1, 1) := by decide +kernel
theorem dX10_forest_6 : decode cX10_forest 6 = .ok (.aload_n 0, 1) := by decide +kernel
theorem dX10_forest_7 : decode cX10_forest 7 = .ok (.getfield 35, 3) := by decide +kernel
theorem dX10_forest_10 : decode cX10_forest 10 = .ok (.ishl, 1) := by decide +kernel
theorem dX10_forest_11 : decode cX10_forest 11 = .ok (.iconst 1, 1) := by decide +kernel
theorem dX10_forest_12 : decode cX10_forest 12 = .ok (.isub, 1) := by decide +kernel
theorem dX10_forest_13 : decode cX10_forest 13 = .ok (.istore_n 2, 1) := by decide +kernel
theorem dX10_forest_14 : decode cX10_forest 14 = .ok (.iconst 0, 1) := by decide +kernel
theorem dX10_forest_15 : decode cX10_forest 15 = .ok (.istore_n 3, 1) := by decide +kernel
theorem dX10_forest_16 : decode cX10_forest 16 = .ok (.iload_n 1, 1) := by decide +kernel
theorem dX10_forest_17 : decode cX10_forest 17 = .ok (.tableswitch 164 0 8 #[51, 56, 61, 66, 72, 110, 117, 154, 159], 51) := by decide +kernel
theorem dX10_forest_68 : decode cX10_forest 68 = .ok (.aload_n 0, 1) := by decide +kernel
theorem dX10_forest_69 : decode cX10_forest 69 = .ok (.getfield 35, 3) := by decide +kernel
theorem dX10_forest_72 : decode cX10_forest 72 = .ok (.ireturn, 1) := by decide +kernel
theorem dX10_forest_73 : decode cX10_forest 73 = .ok (.aload_n 0, 1) := by decide +kernel
theorem dX10_forest_74 : decode cX10_forest 74 = .ok (.invokevirtual 265, 3) := by decide +kernel
theorem dX10_forest_77 : decode cX10_forest 77 = .ok (.ireturn, 1) := by decide +kernel
theorem dX10_forest_78 : decode cX10_forest 78 = .ok (.aload_n 0, 1) := by decide +kernel
theorem dX10_forest_79 : decode cX10_forest 79 = .ok (.invokevirtual 268, 3) := by decide +kernel
theorem dX10_forest_82 : decode cX10_forest 82 = .ok (.ireturn, 1) := by decide +kernel
theorem dX10_forest_83 : decode cX10_forest 83 = .ok (.aload_n 0, 1) := by decide +kernel
theorem dX10_forest_84 : decode cX10_forest 84 = .ok (.iload_n 2, 1) := by decide +kernel
theorem dX10_forest_85 : decode cX10_forest 85 = .ok (.invokevirtual 271, 3) := by decide +kernel
theorem dX10_forest_88 : decode cX10_forest 88 = .ok (.ireturn, 1) := by decide +kernel
theorem dX10_forest_89 : decode cX10_forest 89 = .ok (.iconst 0, 1) := by decide +kernel
theorem dX10_forest_90 : decode cX10_forest 90 = .ok (.istore 4, 2) := by decide +kernel
theorem dX10_forest_92 : decode cX10_forest 92 = .ok (.iload 4, 2) := by decide +kernel
theorem dX10_forest_94 : decode cX10_forest 94 = .ok (.aload_n 0, 1) := by decide +kernel
theorem dX10_forest_95 : decode cX10_forest 95 = .ok (.getfield 35, 3) := by decide +kernel
theorem dX10_forest_98 : decode cX10_forest 98 = .ok (.if_icmp .ge 27, 3) := by decide +kernel
theorem dX10_forest_101 : decode cX10_forest 101 = .ok (.iload_n 3, 1) := by decide +kernel
theorem dX10_forest_102 : decode cX10_forest 102 = .ok (.aload_n 0, 1) := by decide +kernel
theorem dX10_forest_103 : decode cX10_forest 103 = .ok (.getfield 19, 3) := by decide +kernel
theorem dX10_forest_106 : decode cX10_forest 106 = .ok (.iload 4, 2) := by decide +kernel
theorem dX10_forest_108 : decode cX10_forest 108 = .ok (.iaload, 1) := by decide +kernel
theorem dX10_forest_109 : decode cX10_forest 109 = .ok (.ifCond .ne 7, 3) := by decide +kernel
theorem dX10_forest_112 : decode cX10_forest 112 = .ok (.iconst 1, 1) := by decide +kernel
theorem dX10_forest_113 : decode cX10_forest 113 = .ok (.goto 4, 3) := by decide +kernel
theorem dX10_forest_116 : decode cX10_forest 116 = .ok (.iconst 0, 1) := by decide +kernel
theorem dX10_forest_117 : decode cX10_forest 117 = .ok (.iadd, 1) := by decide +kernel
theorem dX10_forest_118 : decode cX10_forest 118 = .ok (.istore_n 3, 1) := by decide +kernel
theorem dX10_forest_119 : decode cX10_forest 119 = .ok (.iinc 4 1, 3) := by decide +kernel
theorem dX10_forest_122 : decode cX10_forest 122 = .ok (.goto (-30), 3) := by decide +kernel
theorem dX10_forest_125 : decode cX10_forest 125 = .ok (.iload_n 3, 1) := by decide +kernel
theorem dX10_forest_126 : decode cX10_forest 126 = .ok (.ireturn, 1) := by decide +kernel
theorem dX10_forest_127 : decode cX10_forest 127 = .ok (.aload_n 0, 1) := by decide +kernel
theorem dX10_forest_128 : decode cX10_forest 128 = .ok (.iload_n 2, 1) := by decide +kernel
theorem dX10_forest_129 : decode cX10_forest 129 = .ok (.iconst 1, 1) := by decide +kernel
theorem dX10_forest_130 : decode cX10_forest 130 = .ok (.invokevirtual 98, 3) := by decide +kernel
theorem dX10_forest_133 : decode cX10_forest 133 = .ok (.ireturn, 1) := by decide +kernel
theorem dX10_forest_134 : decode cX10_forest 134 = .ok (.iconst 0, 1) := by decide +kernel
theorem dX10_forest_135 : decode cX10_forest 135 = .ok (.istore 4, 2) := by decide +kernel
theorem dX10_forest_137 : decode cX10_forest 137 = .ok (.iload 4, 2) := by decide +kernel
theorem dX10_forest_139 : decode cX10_forest 139 = .ok (.aload_n 0, 1) := by decide +kernel
theorem dX10_forest_140 : decode cX10_forest 140 = .ok (.invokevirtual 268, 3) := by decide +kernel
theorem dX10_forest_143 : decode cX10_forest 143 = .ok (.if_icmp .ge 26, 3) := by decide +kernel
theorem dX10_forest_146 : decode cX10_forest 146 = .ok (.iload_n 3, 1) := by decide +kernel
theorem dX10_forest_147 : decode cX10_forest 147 = .ok (.aload_n 0, 1) := by decide +kernel
theorem dX10_forest_148 : decode cX10_forest 148 = .ok (.iload 4, 2) := by decide +kernel
theorem dX10_forest_150 : decode cX10_forest 150 = .ok (.invokevirtual 142, 3) := by decide +kernel
theorem dX10_forest_153 : decode cX10_forest 153 = .ok (.ifCond .eq 7, 3) := by decide +kernel
theorem dX10_forest_156 : decode cX10_forest 156 = .ok (.iconst 1, 1) := by decide +kernel
theorem dX10_forest_157 : decode cX10_forest 157 = .ok (.goto 4, 3) := by decide +kernel
theorem dX10_forest_160 : decode cX10_forest 160 = .ok (.iconst 0, 1) := by decide +kernel
theorem dX10_forest_161 : decode cX10_forest 161 = .ok (.iadd, 1) := by decide +kernel
theorem dX10_forest_162 : decode cX10_forest 162 = .ok (.istore_n 3, 1) := by decide +kernel
theorem dX10_forest_163 : decode cX10_forest 163 = .ok (.iinc 4 1, 3) := by decide +kernel
theorem dX10_forest_166 : decode cX10_forest 166 = .ok (.goto (-29), 3) := by decide +kernel
theorem dX10_forest_169 : decode cX10_forest 169 = .ok (.iload_n 3, 1) := by decide +kernel
theorem dX10_forest_170 : decode cX10_forest 170 = .ok (.ireturn, 1) := by decide +kernel
theorem dX10_forest_171 : decode cX10_forest 171 = .ok (.aload_n 0, 1) := by decide +kernel
theorem dX10_forest_172 : decode cX10_forest 172 = .ok (.getfield 262, 3) := by decide +kernel
theorem dX10_forest_175 : decode cX10_forest 175 = .ok (.ireturn, 1) := by decide +kernel
theorem dX10_forest_176 : decode cX10_forest 176 = .ok (.aload_n 0, 1) := by decide +kernel
theorem dX10_forest_177 : decode cX10_forest 177 = .ok (.getfield 63, 3) := by decide +kernel
theorem dX10_forest_180 : decode cX10_forest 180 = .ok (.ireturn, 1) := by decide +kernel
theorem dX10_forest_181 : decode cX10_forest 181 = .ok (.iconst (-1), 1) := by decide +kernel
theorem dX10_forest_182 : decode cX10_forest 182 = .ok (.ireturn, 1) := by decide +kernel
theorem dX10_prunes_0 : decode cX10_prunes 0 = .ok (.iconst 0, 1) := by decide +kernel
theorem dX10_prunes_1 : decode cX10_prunes 1 = .ok (.istore_n 1, 1) := by decide +kernel
theorem dX10_prunes_2 : decode cX10_prunes 2 = .ok (.iconst 0, 1) := by decide +kernel
theorem dX10_prunes_3 : decode cX10_prunes 3 = .ok (.istore_n 2, 1) := by decide +kernel
theorem dX10_prunes_4 : decode cX10_prunes 4 = .ok (.iload_n 2, 1) := by decide +kernel
theorem dX10_prunes_5 : decode cX10_prunes 5 = .ok (.aload_n 0, 1) := by decide +kernel
theorem dX10_prunes_6 : decode cX10_prunes 6 = .ok (.getfield 35, 3) := by decide +kernel
theorem dX10_prunes_9 : decode cX10_prunes 9 = .ok (.if_icmp .ge 32, 3) := by decide +kernel
theorem dX10_prunes_12 : decode cX10_prunes 12 = .ok (.iload_n 1, 1) := by decide +kernel
theorem dX10_prunes_13 : decode cX10_prunes 13 = .ok (.aload_n 0, 1) := by decide +kernel
theorem dX10_prunes_14 : decode cX10_prunes 14 = .ok (.getfield 23, 3) := by decide +kernel
theorem dX10_prunes_17 : decode cX10_prunes 17 = .ok (.iload_n 2, 1) := by decide +kernel
theorem dX10_prunes_18 : decode cX10_prunes 18 = .ok (.iaload, 1) := by decide +kernel
theorem dX10_prunes_19 : decode cX10_prunes 19 = .ok (.invokestatic 111, 3) := by decide +kernel
theorem dX10_prunes_22 : decode cX10_prunes 22 = .ok (.iconst 1, 1) := by decide +kernel
theorem dX10_prunes_23 : decode cX10_prunes 23 = .ok (.if_icmp .ne 9, 3) := by decide +kernel
theorem dX10_prunes_26 : decode cX10_prunes 26 = .ok (.iconst 1, 1) := by decide +kernel
theorem dX10_prunes_27 : decode cX10_prunes 27 = .ok (.iload_n 2, 1) := by decide +kernel
theorem dX10_prunes_28 : decode cX10_prunes 28 = .ok (.ishl, 1) := by decide +kernel
theorem dX10_prunes_29 : decode cX10_prunes 29 = .ok (.goto 4, 3) := by decide +kernel
theorem dX10_prunes_32 : decode cX10_prunes 32 = .ok (.iconst 0, 1) := by decide +kernel
theorem dX10_prunes_33 : decode cX10_prunes 33 = .ok (.ior, 1) := by decide +kernel
theorem dX10_prunes_34 : decode cX10_prunes 34 = .ok (.istore_n 1, 1) := by decide +kernel
theorem dX10_prunes_35 : decode cX10_prunes 35 = .ok (.iinc 2 1, 3) := by decide +kernel
theorem dX10_prunes_38 : decode cX10_prunes 38 = .ok (.goto (-34), 3) := by decide +kernel
theorem dX10_prunes_41 : decode cX10_prunes 41 = .ok (.iconst 0, 1) := by decide +kernel
theorem dX10_prunes_42 : decode cX10_prunes 42 = .ok (.istore_n 2, 1) := by decide +kernel
theorem dX10_prunes_43 : decode cX10_prunes 43 = .ok (.iconst 0, 1) := by decide +kernel
theorem dX10_prunes_44 : decode cX10_prunes 44 = .ok (.istore_n 3, 1) := by decide +kernel
theorem dX10_prunes_45 : decode cX10_prunes 45 = .ok (.iload_n 3, 1) := by decide +kernel
theorem dX10_prunes_46 : decode cX10_prunes 46 = .ok (.aload_n 0, 1) := by decide +kernel
theorem dX10_prunes_47 : decode cX10_prunes 47 = .ok (.getfield 35, 3) := by decide +kernel
theorem dX10_prunes_50 : decode cX10_prunes 50 = .ok (.if_icmp .ge 49, 3) := by decide +kernel
theorem dX10_prunes_53 : decode cX10_prunes 53 = .ok (.iload_n 1, 1) := by decide +kernel
theorem dX10_prunes_54 : decode cX10_prunes 54 = .ok (.iload_n 3, 1) := by decide +kernel
theorem dX10_prunes_55 : decode cX10_prunes 55 = .ok (.invokestatic 70, 3) := by decide +kernel
theorem dX10_prunes_58 : decode cX10_prunes 58 = .ok (.ifCond .eq 35, 3) := by decide +kernel
theorem dX10_prunes_61 : decode cX10_prunes 61 = .ok (.aload_n 0, 1) := by decide +kernel
theorem dX10_prunes_62 : decode cX10_prunes 62 = .ok (.getfield 23, 3) := by decide +kernel
theorem dX10_prunes_65 : decode cX10_prunes 65 = .ok (.iload_n 3, 1) := by decide +kernel
theorem dX10_prunes_66 : decode cX10_prunes 66 = .ok (.iaload, 1) := by decide +kernel
theorem dX10_prunes_67 : decode cX10_prunes 67 = .ok (.ifCond .ne 6, 3) := by decide +kernel
theorem dX10_prunes_70 : decode cX10_prunes 70 = .ok (.goto 23, 3) := by decide +kernel
theorem dX10_prunes_73 : decode cX10_prunes 73 = .ok (.iinc 2 1, 3) := by decide +kernel
theorem dX10_prunes_76 : decode cX10_prunes 76 = .ok (.aload_n 0, 1) := by decide +kernel
theorem dX10_prunes_77 : decode cX10_prunes 77 = .ok (.getfield 23, 3) := by decide +kernel
theorem dX10_prunes_80 : decode cX10_prunes 80 = .ok (.iload_n 3, 1) := by decide +kernel
theorem dX10_prunes_81 : decode cX10_prunes 81 = .ok (.aload_n 0, 1) := by decide +kernel
theorem dX10_prunes_82 : decode cX10_prunes 82 = .ok (.getfield 23, 3) := by decide +kernel
theorem dX10_prunes_85 : decode cX10_prunes 85 = .ok (.iload_n 3, 1) := by decide +kernel
theorem dX10_prunes_86 : decode cX10_prunes 86 = .ok (.iaload, 1) := by decide +kernel
theorem dX10_prunes_87 : decode cX10_prunes 87 = .ok (.invokestatic 87, 3) := by decide +kernel
theorem dX10_prunes_90 : decode cX10_prunes 90 = .ok (.invokestatic 274, 3) := by decide +kernel
theorem dX10_prunes_93 : decode cX10_prunes 93 = .ok (.iinc 3 1, 3) := by decide +kernel
theorem dX10_prunes_96 : decode cX10_prunes 96 = .ok (.goto (-51), 3) := by decide +kernel
theorem dX10_prunes_99 : decode cX10_prunes 99 = .ok (.iload_n 2, 1) := by decide +kernel
theorem dX10_prunes_100 : decode cX10_prunes 100 = .ok (.ireturn, 1) := by decide +kernel
theorem dX10_layOther_0 : decode cX10_layOther 0 = .ok (.iconst 0, 1) := by decide +kernel
theorem dX10_layOther_1 : decode cX10_layOther 1 = .ok (.istore_n 1, 1) := by decide +kernel
theorem dX10_layOther_2 : decode cX10_layOther 2 = .ok (.iload_n 1, 1) := by decide +kernel
theorem dX10_layOther_3 : decode cX10_layOther 3 = .ok (.bipush 20, 2) := by decide +kernel
theorem dX10_layOther_5 : decode cX10_layOther 5 = .ok (.if_icmp .ge 21, 3) := by decide +kernel
theorem dX10_layOther_8 : decode cX10_layOther 8 = .ok (.aload_n 0, 1) := by decide +kernel
theorem dX10_layOther_9 : decode cX10_layOther 9 = .ok (.getfield 23, 3) := by decide +kernel
theorem dX10_layOther_12 : decode cX10_layOther 12 = .ok (.iload_n 1, 1) := by decide +kernel
theorem dX10_layOther_13 : decode cX10_layOther 13 = .ok (.aload_n 0, 1) := by decide +kernel
theorem dX10_layOther_14 : decode cX10_layOther 14 = .ok (.getfield 19, 3) := by decide +kernel
theorem dX10_layOther_17 : decode cX10_layOther 17 = .ok (.iload_n 1, 1) := by decide +kernel
theorem dX10_layOther_18 : decode cX10_layOther 18 = .ok (.iaload, 1) := by decide +kernel
theorem dX10_layOther_19 : decode cX10_layOther 19 = .ok (.iastore, 1) := by decide +kernel
theorem dX10_layOther_20 : decode cX10_layOther 20 = .ok (.iinc 1 1, 3) := by decide +kernel
theorem dX10_layOther_23 : decode cX10_layOther 23 = .ok (.goto (-21), 3) := by decide +kernel
theorem dX10_layOther_26 : decode cX10_layOther 26 = .ok (.return_, 1) := by decide +kernel
theorem dX10_round_0 : decode cX10_round 0 = .ok (.aload_n 0, 1) := by decide +kernel
theorem dX10_round_1 : decode cX10_round 1 = .ok (.invokevirtual 277, 3) := by decide +kernel
theorem dX10_round_4 : decode cX10_round 4 = .ok (.iconst 0, 1) := by decide +kernel
theorem dX10_round_5 : decode cX10_round 5 = .ok (.istore_n 2, 1) := by decide +kernel
theorem dX10_round_6 : decode cX10_round 6 = .ok (.iconst 0, 1) := by decide +kernel
theorem dX10_round_7 : decode cX10_round 7 = .ok (.istore_n 3, 1) := by decide +kernel
theorem dX10_round_8 : decode cX10_round 8 = .ok (.aload_n 0, 1) := by decide +kernel
theorem dX10_round_9 : decode cX10_round 9 = .ok (.getfield 23, 3) := by decide +kernel
theorem dX10_round_12 : decode cX10_round 12 = .ok (.iload_n 1, 1) := by decide +kernel
theorem dX10_round_13 : decode cX10_round 13 = .ok (.iaload, 1) := by decide +kernel
theorem dX10_round_14 : decode cX10_round 14 = .ok (.ifCond .eq 16, 3) := by decide +kernel
theorem dX10_round_17 : decode cX10_round 17 = .ok (.iload_n 3, 1) := by decide +kernel
theorem dX10_round_18 : decode cX10_round 18 = .ok (.aload_n 0, 1) := by decide +kernel
theorem dX10_round_19 : decode cX10_round 19 = .ok (.invokevirtual 280, 3) := by decide +kernel
theorem dX10_round_22 : decode cX10_round 22 = .ok (.iadd, 1) := by decide +kernel
theorem dX10_round_23 : decode cX10_round 23 = .ok (.istore_n 3, 1) := by decide +kernel
theorem dX10_round_24 : decode cX10_round 24 = .ok (.iinc 2 1, 3) := by decide +kernel
theorem dX10_round_27 : decode cX10_round 27 = .ok (.goto (-19), 3) := by decide +kernel
theorem dX10_round_30 : decode cX10_round 30 = .ok (.iload_n 2, 1) := by decide +kernel
theorem dX10_round_31 : decode cX10_round 31 = .ok (.ireturn, 1) := by decide +kernel
theorem dX10_vertex_0 : decode cX10_vertex 0 = .ok (.aload_n 0, 1) := by decide +kernel
theorem dX10_vertex_1 : decode cX10_vertex 1 = .ok (.iload_n 1, 1) := by decide +kernel
theorem dX10_vertex_2 : decode cX10_vertex 2 = .ok (.invokevirtual 283, 3) := by decide +kernel
theorem dX10_vertex_5 : decode cX10_vertex 5 = .ok (.istore_n 3, 1) := by decide +kernel
theorem dX10_vertex_6 : decode cX10_vertex 6 = .ok (.aload_n 0, 1) := by decide +kernel
theorem dX10_vertex_7 : decode cX10_vertex 7 = .ok (.iload_n 3, 1) := by decide +kernel
theorem dX10_vertex_8 : decode cX10_vertex 8 = .ok (.ifCond .ne 7, 3) := by decide +kernel
theorem dX10_vertex_11 : decode cX10_vertex 11 = .ok (.iconst 1, 1) := by decide +kernel
theorem dX10_vertex_12 : decode cX10_vertex 12 = .ok (.goto 4, 3) := by decide +kernel
theorem dX10_vertex_15 : decode cX10_vertex 15 = .ok (.iconst 0, 1) := by decide +kernel
theorem dX10_vertex_16 : decode cX10_vertex 16 = .ok (.iload_n 3, 1) := by decide +kernel
theorem dX10_vertex_17 : decode cX10_vertex 17 = .ok (.ifCond .eq 17, 3) := by decide +kernel
theorem dX10_vertex_20 : decode cX10_vertex 20 = .ok (.iload_n 2, 1) := by decide +kernel
theorem dX10_vertex_21 : decode cX10_vertex 21 = .ok (.iconst 0, 1) := by decide +kernel
theorem dX10_vertex_22 : decode cX10_vertex 22 = .ok (.bipush 7, 2) := by decide +kernel
theorem dX10_vertex_24 : decode cX10_vertex 24 = .ok (.invokestatic 153, 3) := by decide +kernel
theorem dX10_vertex_27 : decode cX10_vertex 27 = .ok (.ifCond .ne 7, 3) := by decide +kernel
theorem dX10_vertex_30 : decode cX10_vertex 30 = .ok (.iconst 1, 1) := by decide +kernel
theorem dX10_vertex_31 : decode cX10_vertex 31 = .ok (.goto 4, 3) := by decide +kernel
theorem dX10_vertex_34 : decode cX10_vertex 34 = .ok (.iconst 0, 1) := by decide +kernel
theorem dX10_vertex_35 : decode cX10_vertex 35 = .ok (.invokevirtual 286, 3) := by decide +kernel
theorem dX10_vertex_38 : decode cX10_vertex 38 = .ok (.ifCond .eq 5, 3) := by decide +kernel
theorem dX10_vertex_41 : decode cX10_vertex 41 = .ok (.iconst 0, 1) := by decide +kernel
theorem dX10_vertex_42 : decode cX10_vertex 42 = .ok (.ireturn, 1) := by decide +kernel
theorem dX10_vertex_43 : decode cX10_vertex 43 = .ok (.iload_n 2, 1) := by decide +kernel
theorem dX10_vertex_44 : decode cX10_vertex 44 = .ok (.tableswitch 98 0 6 #[44, 54, 64, 70, 79, 85, 91], 44) := by decide +kernel
theorem dX10_vertex_88 : decode cX10_vertex 88 = .ok (.aload_n 0, 1) := by decide +kernel
theorem dX10_vertex_89 : decode cX10_vertex 89 = .ok (.getfield 19, 3) := by decide +kernel
theorem dX10_vertex_92 : decode cX10_vertex 92 = .ok (.iload_n 1, 1) := by decide +kernel
theorem dX10_vertex_93 : decode cX10_vertex 93 = .ok (.iaload, 1) := by decide +kernel
theorem dX10_vertex_94 : decode cX10_vertex 94 = .ok (.invokestatic 111, 3) := by decide +kernel
theorem dX10_vertex_97 : decode cX10_vertex 97 = .ok (.ireturn, 1) := by decide +kernel
theorem dX10_vertex_98 : decode cX10_vertex 98 = .ok (.aload_n 0, 1) := by decide +kernel
theorem dX10_vertex_99 : decode cX10_vertex 99 = .ok (.getfield 19, 3) := by decide +kernel
theorem dX10_vertex_102 : decode cX10_vertex 102 = .ok (.bipush 10, 2) := by decide +kernel
theorem dX10_vertex_104 : decode cX10_vertex 104 = .ok (.iload_n 1, 1) := by decide +kernel
theorem dX10_vertex_105 : decode cX10_vertex 105 = .ok (.iadd, 1) := by decide +kernel
theorem dX10_vertex_106 : decode cX10_vertex 106 = .ok (.iaload, 1) := by decide +kernel
theorem dX10_vertex_107 : decode cX10_vertex 107 = .ok (.ireturn, 1) := by decide +kernel
theorem dX10_vertex_108 : decode cX10_vertex 108 = .ok (.aload_n 0, 1) := by decide +kernel
theorem dX10_vertex_109 : decode cX10_vertex 109 = .ok (.iload_n 1, 1) := by decide +kernel
theorem dX10_vertex_110 : decode cX10_vertex 110 = .ok (.invokevirtual 289, 3) := by decide +kernel
theorem dX10_vertex_113 : decode cX10_vertex 113 = .ok (.ireturn, 1) := by decide +kernel
theorem dX10_vertex_114 : decode cX10_vertex 114 = .ok (.aload_n 0, 1) := by decide +kernel
theorem dX10_vertex_115 : decode cX10_vertex 115 = .ok (.iload_n 1, 1) := by decide +kernel
theorem dX10_vertex_116 : decode cX10_vertex 116 = .ok (.invokevirtual 84, 3) := by decide +kernel
theorem dX10_vertex_119 : decode cX10_vertex 119 = .ok (.invokestatic 111, 3) := by decide +kernel
theorem dX10_vertex_122 : decode cX10_vertex 122 = .ok (.ireturn, 1) := by decide +kernel
theorem dX10_vertex_123 : decode cX10_vertex 123 = .ok (.aload_n 0, 1) := by decide +kernel
theorem dX10_vertex_124 : decode cX10_vertex 124 = .ok (.iload_n 1, 1) := by decide +kernel
theorem dX10_vertex_125 : decode cX10_vertex 125 = .ok (.invokevirtual 102, 3) := by decide +kernel
theorem dX10_vertex_128 : decode cX10_vertex 128 = .ok (.ireturn, 1) := by decide +kernel
theorem dX10_vertex_129 : decode cX10_vertex 129 = .ok (.aload_n 0, 1) := by decide +kernel
theorem dX10_vertex_130 : decode cX10_vertex 130 = .ok (.iload_n 1, 1) := by decide +kernel
theorem dX10_vertex_131 : decode cX10_vertex 131 = .ok (.invokevirtual 292, 3) := by decide +kernel
theorem dX10_vertex_134 : decode cX10_vertex 134 = .ok (.ireturn, 1) := by decide +kernel
theorem dX10_vertex_135 : decode cX10_vertex 135 = .ok (.aload_n 0, 1) := by decide +kernel
theorem dX10_vertex_136 : decode cX10_vertex 136 = .ok (.getfield 19, 3) := by decide +kernel
theorem dX10_vertex_139 : decode cX10_vertex 139 = .ok (.iload_n 1, 1) := by decide +kernel
theorem dX10_vertex_140 : decode cX10_vertex 140 = .ok (.iaload, 1) := by decide +kernel
theorem dX10_vertex_141 : decode cX10_vertex 141 = .ok (.ireturn, 1) := by decide +kernel
theorem dX10_vertex_142 : decode cX10_vertex 142 = .ok (.aload_n 0, 1) := by decide +kernel
theorem dX10_vertex_143 : decode cX10_vertex 143 = .ok (.iload_n 1, 1) := by decide +kernel
theorem dX10_vertex_144 : decode cX10_vertex 144 = .ok (.invokevirtual 130, 3) := by decide +kernel
theorem dX10_vertex_147 : decode cX10_vertex 147 = .ok (.ireturn, 1) := by decide +kernel
theorem dX10_isComponent_0 : decode cX10_isComponent 0 = .ok (.iload_n 1, 1) := by decide +kernel
theorem dX10_isComponent_1 : decode cX10_isComponent 1 = .ok (.iconst 0, 1) := by decide +kernel
theorem dX10_isComponent_2 : decode cX10_isComponent 2 = .ok (.aload_n 0, 1) := by decide +kernel
theorem dX10_isComponent_3 : decode cX10_isComponent 3 = .ok (.invokevirtual 268, 3) := by decide +kernel
theorem dX10_isComponent_6 : decode cX10_isComponent 6 = .ok (.iconst 1, 1) := by decide +kernel
theorem dX10_isComponent_7 : decode cX10_isComponent 7 = .ok (.isub, 1) := by decide +kernel
theorem dX10_isComponent_8 : decode cX10_isComponent 8 = .ok (.invokestatic 153, 3) := by decide +kernel
theorem dX10_isComponent_11 : decode cX10_isComponent 11 = .ok (.ireturn, 1) := by decide +kernel
theorem dX10_component__0 : decode cX10_component_ 0 = .ok (.aload_n 0, 1) := by decide +kernel
theorem dX10_component__1 : decode cX10_component_ 1 = .ok (.iload_n 1, 1) := by decide +kernel
theorem dX10_component__2 : decode cX10_component_ 2 = .ok (.invokevirtual 295, 3) := by decide +kernel
theorem dX10_component__5 : decode cX10_component_ 5 = .ok (.istore_n 3, 1) := by decide +kernel
theorem dX10_component__6 : decode cX10_component_ 6 = .ok (.aload_n 0, 1) := by decide +kernel
theorem dX10_component__7 : decode cX10_component_ 7 = .ok (.iload_n 3, 1) := by decide +kernel
theorem dX10_component__8 : decode cX10_component_ 8 = .ok (.ifCond .ne 7, 3) := by decide +kernel
theorem dX10_component__11 : decode cX10_component_ 11 = .ok (.iconst 1, 1) := by decide +kernel
theorem dX10_component__12 : decode cX10_component_ 12 = .ok (.goto 4, 3) := by decide +kernel
theorem dX10_component__15 : decode cX10_component_ 15 = .ok (.iconst 0, 1) := by decide +kernel
theorem dX10_component__16 : decode cX10_component_ 16 = .ok (.iload_n 3, 1) := by decide +kernel
theorem dX10_component__17 : decode cX10_component_ 17 = .ok (.ifCond .eq 17, 3) := by decide +kernel
theorem dX10_component__20 : decode cX10_component_ 20 = .ok (.iload_n 2, 1) := by decide +kernel
theorem dX10_component__21 : decode cX10_component_ 21 = .ok (.iconst 0, 1) := by decide +kernel
theorem dX10_component__22 : decode cX10_component_ 22 = .ok (.bipush 6, 2) := by decide +kernel
theorem dX10_component__24 : decode cX10_component_ 24 = .ok (.invokestatic 153, 3) := by decide +kernel
theorem dX10_component__27 : decode cX10_component_ 27 = .ok (.ifCond .ne 7, 3) := by decide +kernel
theorem dX10_component__30 : decode cX10_component_ 30 = .ok (.iconst 1, 1) := by decide +kernel
theorem dX10_component__31 : decode cX10_component_ 31 = .ok (.goto 4, 3) := by decide +kernel
theorem dX10_component__34 : decode cX10_component_ 34 = .ok (.iconst 0, 1) := by decide +kernel
theorem dX10_component__35 : decode cX10_component_ 35 = .ok (.invokevirtual 286, 3) := by decide +kernel
theorem dX10_component__38 : decode cX10_component_ 38 = .ok (.ifCond .eq 5, 3) := by decide +kernel
theorem dX10_component__41 : decode cX10_component_ 41 = .ok (.iconst 0, 1) := by decide +kernel
theorem dX10_component__42 : decode cX10_component_ 42 = .ok (.ireturn, 1) := by decide +kernel
theorem dX10_component__43 : decode cX10_component_ 43 = .ok (.aload_n 0, 1) := by decide +kernel
theorem dX10_component__44 : decode cX10_component_ 44 = .ok (.iload_n 1, 1) := by decide +kernel
theorem dX10_component__45 : decode cX10_component_ 45 = .ok (.invokevirtual 133, 3) := by decide +kernel
theorem dX10_component__48 : decode cX10_component_ 48 = .ok (.istore 4, 2) := by decide +kernel
theorem dX10_component__50 : decode cX10_component_ 50 = .ok (.iload_n 2, 1) := by decide +kernel
theorem dX10_component__51 : decode cX10_component_ 51 = .ok (.tableswitch 77 0 5 #[37, 40, 47, 55, 63, 71], 37) := by decide +kernel
theorem dX10_component__88 : decode cX10_component_ 88 = .ok (.iload 4, 2) := by decide +kernel
theorem dX10_component__90 : decode cX10_component_ 90 = .ok (.ireturn, 1) := by decide +kernel
theorem dX10_component__91 : decode cX10_component_ 91 = .ok (.aload_n 0, 1) := by decide +kernel
theorem dX10_component__92 : decode cX10_component_ 92 = .ok (.iload 4, 2) := by decide +kernel
theorem dX10_component__94 : decode cX10_component_ 94 = .ok (.invokevirtual 298, 3) := by decide +kernel
theorem dX10_component__97 : decode cX10_component_ 97 = .ok (.ireturn, 1) := by decide +kernel
theorem dX10_component__98 : decode cX10_component_ 98 = .ok (.aload_n 0, 1) := by decide +kernel
theorem dX10_component__99 : decode cX10_component_ 99 = .ok (.iload 4, 2) := by decide +kernel
theorem dX10_component__101 : decode cX10_component_ 101 = .ok (.iconst 0, 1) := by decide +kernel
theorem dX10_component__102 : decode cX10_component_ 102 = .ok (.invokevirtual 121, 3) := by decide +kernel
theorem dX10_component__105 : decode cX10_component_ 105 = .ok (.ireturn, 1) := by decide +kernel
theorem dX10_component__106 : decode cX10_component_ 106 = .ok (.aload_n 0, 1) := by decide +kernel
theorem dX10_component__107 : decode cX10_component_ 107 = .ok (.iload 4, 2) := by decide +kernel
theorem dX10_component__109 : decode cX10_component_ 109 = .ok (.iconst 1, 1) := by decide +kernel
theorem dX10_component__110 : decode cX10_component_ 110 = .ok (.invokevirtual 121, 3) := by decide +kernel
theorem dX10_component__113 : decode cX10_component_ 113 = .ok (.ireturn, 1) := by decide +kernel
theorem dX10_component__114 : decode cX10_component_ 114 = .ok (.aload_n 0, 1) := by decide +kernel
theorem dX10_component__115 : decode cX10_component_ 115 = .ok (.iload 4, 2) := by decide +kernel
theorem dX10_component__117 : decode cX10_component_ 117 = .ok (.iconst 2, 1) := by decide +kernel
theorem dX10_component__118 : decode cX10_component_ 118 = .ok (.invokevirtual 121, 3) := by decide +kernel
theorem dX10_component__121 : decode cX10_component_ 121 = .ok (.ireturn, 1) := by decide +kernel
theorem dX10_component__122 : decode cX10_component_ 122 = .ok (.aload_n 0, 1) := by decide +kernel
theorem dX10_component__123 : decode cX10_component_ 123 = .ok (.iload_n 1, 1) := by decide +kernel
theorem dX10_component__124 : decode cX10_component_ 124 = .ok (.invokevirtual 139, 3) := by decide +kernel
theorem dX10_component__127 : decode cX10_component_ 127 = .ok (.ireturn, 1) := by decide +kernel
theorem dX10_component__128 : decode cX10_component_ 128 = .ok (.aload_n 0, 1) := by decide +kernel
theorem dX10_component__129 : decode cX10_component_ 129 = .ok (.iload 4, 2) := by decide +kernel
theorem dX10_component__131 : decode cX10_component_ 131 = .ok (.invokevirtual 271, 3) := by decide +kernel
theorem dX10_component__134 : decode cX10_component_ 134 = .ok (.ireturn, 1) := by decide +kernel
theorem dX10_distance_0 : decode cX10_distance 0 = .ok (.aload_n 0, 1) := by decide +kernel
theorem dX10_distance_1 : decode cX10_distance 1 = .ok (.aload_n 0, 1) := by decide +kernel
theorem dX10_distance_2 : decode cX10_distance 2 = .ok (.iload_n 1, 1) := by decide +kernel
theorem dX10_distance_3 : decode cX10_distance 3 = .ok (.invokevirtual 283, 3) := by decide +kernel
theorem dX10_distance_6 : decode cX10_distance 6 = .ok (.ifCond .eq 11, 3) := by decide +kernel
theorem dX10_distance_9 : decode cX10_distance 9 = .ok (.aload_n 0, 1) := by decide +kernel
theorem dX10_distance_10 : decode cX10_distance 10 = .ok (.iload_n 2, 1) := by decide +kernel
theorem dX10_distance_11 : decode cX10_distance 11 = .ok (.invokevirtual 283, 3) := by decide +kernel
theorem dX10_distance_14 : decode cX10_distance 14 = .ok (.ifCond .ne 7, 3) := by decide +kernel
theorem dX10_distance_17 : decode cX10_distance 17 = .ok (.iconst 1, 1) := by decide +kernel
theorem dX10_distance_18 : decode cX10_distance 18 = .ok (.goto 4, 3) := by decide +kernel
theorem dX10_distance_21 : decode cX10_distance 21 = .ok (.iconst 0, 1) := by decide +kernel
theorem dX10_distance_22 : decode cX10_distance 22 = .ok (.iconst 0, 1) := by decide +kernel
theorem dX10_distance_23 : decode cX10_distance 23 = .ok (.invokevirtual 286, 3) := by decide +kernel
theorem dX10_distance_26 : decode cX10_distance 26 = .ok (.ifCond .eq 7, 3) := by decide +kernel
theorem dX10_distance_29 : decode cX10_distance 29 = .ok (.iconst 0, 1) := by decide +kernel
theorem dX10_distance_30 : decode cX10_distance 30 = .ok (.goto 9, 3) := by decide +kernel
theorem dX10_distance_33 : decode cX10_distance 33 = .ok (.aload_n 0, 1) := by decide +kernel
theorem dX10_distance_34 : decode cX10_distance 34 = .ok (.iload_n 1, 1) := by decide +kernel
theorem dX10_distance_35 : decode cX10_distance 35 = .ok (.iload_n 2, 1) := by decide +kernel
theorem dX10_distance_36 : decode cX10_distance 36 = .ok (.invokevirtual 90, 3) := by decide +kernel
theorem dX10_distance_39 : decode cX10_distance 39 = .ok (.ireturn, 1) := by decide +kernel
theorem dX10_isBetween_0 : decode cX10_isBetween 0 = .ok (.aload_n 0, 1) := by decide +kernel
theorem dX10_isBetween_1 : decode cX10_isBetween 1 = .ok (.iload_n 2, 1) := by decide +kernel
theorem dX10_isBetween_2 : decode cX10_isBetween 2 = .ok (.iload_n 1, 1) := by decide +kernel
theorem dX10_isBetween_3 : decode cX10_isBetween 3 = .ok (.invokevirtual 90, 3) := by decide +kernel
theorem dX10_isBetween_6 : decode cX10_isBetween 6 = .ok (.iconst (-1), 1) := by decide +kernel
theorem dX10_isBetween_7 : decode cX10_isBetween 7 = .ok (.if_icmp .eq 29, 3) := by decide +kernel
theorem dX10_isBetween_10 : decode cX10_isBetween 10 = .ok (.aload_n 0, 1) := by decide +kernel
theorem dX10_isBetween_11 : decode cX10_isBetween 11 = .ok (.iload_n 2, 1) := by decide +kernel
theorem dX10_isBetween_12 : decode cX10_isBetween 12 = .ok (.iload_n 1, 1) := by decide +kernel
theorem dX10_isBetween_13 : decode cX10_isBetween 13 = .ok (.invokevirtual 90, 3) := by decide +kernel
theorem dX10_isBetween_16 : decode cX10_isBetween 16 = .ok (.aload_n 0, 1) := by decide +kernel
theorem dX10_isBetween_17 : decode cX10_isBetween 17 = .ok (.iload_n 1, 1) := by decide +kernel
theorem dX10_isBetween_18 : decode cX10_isBetween 18 = .ok (.iload_n 3, 1) := by decide +kernel
theorem dX10_isBetween_19 : decode cX10_isBetween 19 = .ok (.invokevirtual 90, 3) := by decide +kernel
theorem dX10_isBetween_22 : decode cX10_isBetween 22 = .ok (.iadd, 1) := by decide +kernel
theorem dX10_isBetween_23 : decode cX10_isBetween 23 = .ok (.aload_n 0, 1) := by decide +kernel
theorem dX10_isBetween_24 : decode cX10_isBetween 24 = .ok (.iload_n 2, 1) := by decide +kernel
theorem dX10_isBetween_25 : decode cX10_isBetween 25 = .ok (.iload_n 3, 1) := by decide +kernel
theorem dX10_isBetween_26 : decode cX10_isBetween 26 = .ok (.invokevirtual 90, 3) := by decide +kernel
theorem dX10_isBetween_29 : decode cX10_isBetween 29 = .ok (.if_icmp .ne 7, 3) := by decide +kernel
theorem dX10_isBetween_32 : decode cX10_isBetween 32 = .ok (.iconst 1, 1) := by decide +kernel
theorem dX10_isBetween_33 : decode cX10_isBetween 33 = .ok (.goto 4, 3) := by decide +kernel
theorem dX10_isBetween_36 : decode cX10_isBetween 36 = .ok (.iconst 0, 1) := by decide +kernel
theorem dX10_isBetween_37 : decode cX10_isBetween 37 = .ok (.ireturn, 1) := by decide +kernel
theorem dX10_onPath_0 : decode cX10_onPath 0 = .ok (.aload_n 0, 1) := by decide +kernel
theorem dX10_onPath_1 : decode cX10_onPath 1 = .ok (.iload_n 1, 1) := by decide +kernel
theorem dX10_onPath_2 : decode cX10_onPath 2 = .ok (.invokevirtual 283, 3) := by decide +kernel
theorem dX10_onPath_5 : decode cX10_onPath 5 = .ok (.ifCond .eq 15, 3) := by decide +kernel
theorem dX10_onPath_8 : decode cX10_onPath 8 = .ok (.aload_n 0, 1) := by decide +kernel
theorem dX10_onPath_9 : decode cX10_onPath 9 = .ok (.iload_n 2, 1) := by decide +kernel
theorem dX10_onPath_10 : decode cX10_onPath 10 = .ok (.invokevirtual 283, 3) := by decide +kernel
theorem dX10_onPath_13 : decode cX10_onPath 13 = .ok (.ifCond .eq 7, 3) := by decide +kernel
theorem dX10_onPath_16 : decode cX10_onPath 16 = .ok (.iconst 1, 1) := by decide +kernel
theorem dX10_onPath_17 : decode cX10_onPath 17 = .ok (.goto 4, 3) := by decide +kernel
theorem dX10_onPath_20 : decode cX10_onPath 20 = .ok (.iconst 0, 1) := by decide +kernel
theorem dX10_onPath_21 : decode cX10_onPath 21 = .ok (.istore 4, 2) := by decide +kernel
theorem dX10_onPath_23 : decode cX10_onPath 23 = .ok (.aload_n 0, 1) := by decide +kernel
theorem dX10_onPath_24 : decode cX10_onPath 24 = .ok (.iload 4, 2) := by decide +kernel
theorem dX10_onPath_26 : decode cX10_onPath 26 = .ok (.ifCond .ne 7, 3) := by decide +kernel
theorem dX10_onPath_29 : decode cX10_onPath 29 = .ok (.iconst 1, 1) := by decide +kernel
theorem dX10_onPath_30 : decode cX10_onPath 30 = .ok (.goto 4, 3) := by decide +kernel
theorem dX10_onPath_33 : decode cX10_onPath 33 = .ok (.iconst 0, 1) := by decide +kernel
theorem dX10_onPath_34 : decode cX10_onPath 34 = .ok (.iload 4, 2) := by decide +kernel
theorem dX10_onPath_36 : decode cX10_onPath 36 = .ok (.ifCond .eq 31, 3) := by decide +kernel
theorem dX10_onPath_39 : decode cX10_onPath 39 = .ok (.aload_n 0, 1) := by decide +kernel
theorem dX10_onPath_40 : decode cX10_onPath 40 = .ok (.iload_n 1, 1) := by decide +kernel
theorem dX10_onPath_41 : decode cX10_onPath 41 = .ok (.iload_n 2, 1) := by decide +kernel
theorem dX10_onPath_42 : decode cX10_onPath 42 = .ok (.invokevirtual 90, 3) := by decide +kernel
theorem dX10_onPath_45 : decode cX10_onPath 45 = .ok (.iconst (-1), 1) := by decide +kernel
theorem dX10_onPath_46 : decode cX10_onPath 46 = .ok (.if_icmp .eq 17, 3) := by decide +kernel
theorem dX10_onPath_49 : decode cX10_onPath 49 = .ok (.iload_n 3, 1) := by decide +kernel
theorem dX10_onPath_50 : decode cX10_onPath 50 = .ok (.iconst 0, 1) := by decide +kernel
theorem dX10_onPath_51 : decode cX10_onPath 51 = .ok (.aload_n 0, 1) := by decide +kernel
theorem dX10_onPath_52 : decode cX10_onPath 52 = .ok (.iload_n 1, 1) := by decide +kernel
theorem dX10_onPath_53 : decode cX10_onPath 53 = .ok (.iload_n 2, 1) := by decide +kernel
theorem dX10_onPath_54 : decode cX10_onPath 54 = .ok (.invokevirtual 90, 3) := by decide +kernel
theorem dX10_onPath_57 : decode cX10_onPath 57 = .ok (.invokestatic 153, 3) := by decide +kernel
theorem dX10_onPath_60 : decode cX10_onPath 60 = .ok (.ifCond .ne 7, 3) := by decide +kernel
theorem dX10_onPath_63 : decode cX10_onPath 63 = .ok (.iconst 1, 1) := by decide +kernel
theorem dX10_onPath_64 : decode cX10_onPath 64 = .ok (.goto 4, 3) := by decide +kernel
theorem dX10_onPath_67 : decode cX10_onPath 67 = .ok (.iconst 0, 1) := by decide +kernel
theorem dX10_onPath_68 : decode cX10_onPath 68 = .ok (.invokevirtual 286, 3) := by decide +kernel
theorem dX10_onPath_71 : decode cX10_onPath 71 = .ok (.ifCond .eq 5, 3) := by decide +kernel
theorem dX10_onPath_74 : decode cX10_onPath 74 = .ok (.iconst 0, 1) := by decide +kernel
theorem dX10_onPath_75 : decode cX10_onPath 75 = .ok (.ireturn, 1) := by decide +kernel
theorem dX10_onPath_76 : decode cX10_onPath 76 = .ok (.iconst 0, 1) := by decide +kernel
theorem dX10_onPath_77 : decode cX10_onPath 77 = .ok (.istore 5, 2) := by decide +kernel
theorem dX10_onPath_79 : decode cX10_onPath 79 = .ok (.aload_n 0, 1) := by decide +kernel
theorem dX10_onPath_80 : decode cX10_onPath 80 = .ok (.iload 5, 2) := by decide +kernel
theorem dX10_onPath_82 : decode cX10_onPath 82 = .ok (.iload_n 1, 1) := by decide +kernel
theorem dX10_onPath_83 : decode cX10_onPath 83 = .ok (.iload_n 2, 1) := by decide +kernel
theorem dX10_onPath_84 : decode cX10_onPath 84 = .ok (.invokevirtual 301, 3) := by decide +kernel
theorem dX10_onPath_87 : decode cX10_onPath 87 = .ok (.ifCond .eq 14, 3) := by decide +kernel
theorem dX10_onPath_90 : decode cX10_onPath 90 = .ok (.aload_n 0, 1) := by decide +kernel
theorem dX10_onPath_91 : decode cX10_onPath 91 = .ok (.iload_n 1, 1) := by decide +kernel
theorem dX10_onPath_92 : decode cX10_onPath 92 = .ok (.iload 5, 2) := by decide +kernel
theorem dX10_onPath_94 : decode cX10_onPath 94 = .ok (.invokevirtual 90, 3) := by decide +kernel
theorem dX10_onPath_97 : decode cX10_onPath 97 = .ok (.iload_n 3, 1) := by decide +kernel
theorem dX10_onPath_98 : decode cX10_onPath 98 = .ok (.if_icmp .eq 9, 3) := by decide +kernel
theorem dX10_onPath_101 : decode cX10_onPath 101 = .ok (.iinc 5 1, 3) := by decide +kernel
theorem dX10_onPath_104 : decode cX10_onPath 104 = .ok (.goto (-25), 3) := by decide +kernel
theorem dX10_onPath_107 : decode cX10_onPath 107 = .ok (.iload 5, 2) := by decide +kernel
theorem dX10_onPath_109 : decode cX10_onPath 109 = .ok (.ireturn, 1) := by decide +kernel
theorem dX10_median_0 : decode cX10_median 0 = .ok (.aload_n 0, 1) := by decide +kernel
theorem dX10_median_1 : decode cX10_median 1 = .ok (.iload_n 1, 1) := by decide +kernel
theorem dX10_median_2 : decode cX10_median 2 = .ok (.invokevirtual 283, 3) := by decide +kernel
theorem dX10_median_5 : decode cX10_median 5 = .ok (.ifCond .eq 23, 3) := by decide +kernel
theorem dX10_median_8 : decode cX10_median 8 = .ok (.aload_n 0, 1) := by decide +kernel
theorem dX10_median_9 : decode cX10_median 9 = .ok (.iload_n 2, 1) := by decide +kernel
theorem dX10_median_10 : decode cX10_median 10 = .ok (.invokevirtual 283, 3) := by decide +kernel
theorem dX10_median_13 : decode cX10_median 13 = .ok (.ifCond .eq 15, 3) := by decide +kernel
theorem dX10_median_16 : decode cX10_median 16 = .ok (.aload_n 0, 1) := by decide +kernel
theorem dX10_median_17 : decode cX10_median 17 = .ok (.iload_n 3, 1) := by decide +kernel
theorem dX10_median_18 : decode cX10_median 18 = .ok (.invokevirtual 283, 3) := by decide +kernel
theorem dX10_median_21 : decode cX10_median 21 = .ok (.ifCond .eq 7, 3) := by decide +kernel
theorem dX10_median_24 : decode cX10_median 24 = .ok (.iconst 1, 1) := by decide +kernel
theorem dX10_median_25 : decode cX10_median 25 = .ok (.goto 4, 3) := by decide +kernel
theorem dX10_median_28 : decode cX10_median 28 = .ok (.iconst 0, 1) := by decide +kernel
theorem dX10_median_29 : decode cX10_median 29 = .ok (.istore 4, 2) := by decide +kernel
theorem dX10_median_31 : decode cX10_median 31 = .ok (.aload_n 0, 1) := by decide +kernel
theorem dX10_median_32 : decode cX10_median 32 = .ok (.iload 4, 2) := by decide +kernel
theorem dX10_median_34 : decode cX10_median 34 = .ok (.ifCond .ne 7, 3) := by decide +kernel
theorem dX10_median_37 : decode cX10_median 37 = .ok (.iconst 1, 1) := by decide +kernel
theorem dX10_median_38 : decode cX10_median 38 = .ok (.goto 4, 3) := by decide +kernel
theorem dX10_median_41 : decode cX10_median 41 = .ok (.iconst 0, 1) := by decide +kernel
theorem dX10_median_42 : decode cX10_median 42 = .ok (.iload 4, 2) := by decide +kernel
theorem dX10_median_44 : decode cX10_median 44 = .ok (.ifCond .eq 27, 3) := by decide +kernel
theorem dX10_median_47 : decode cX10_median 47 = .ok (.aload_n 0, 1) := by decide +kernel
theorem dX10_median_48 : decode cX10_median 48 = .ok (.iload_n 1, 1) := by decide +kernel
theorem dX10_median_49 : decode cX10_median 49 = .ok (.iload_n 2, 1) := by decide +kernel
theorem dX10_median_50 : decode cX10_median 50 = .ok (.invokevirtual 90, 3) := by decide +kernel
theorem dX10_median_53 : decode cX10_median 53 = .ok (.iconst (-1), 1) := by decide +kernel
theorem dX10_median_54 : decode cX10_median 54 = .ok (.if_icmp .eq 13, 3) := by decide +kernel
theorem dX10_median_57 : decode cX10_median 57 = .ok (.aload_n 0, 1) := by decide +kernel
theorem dX10_median_58 : decode cX10_median 58 = .ok (.iload_n 1, 1) := by decide +kernel
theorem dX10_median_59 : decode cX10_median 59 = .ok (.iload_n 3, 1) := by decide +kernel
theorem dX10_median_60 : decode cX10_median 60 = .ok (.invokevirtual 90, 3) := by decide +kernel
theorem dX10_median_63 : decode cX10_median 63 = .ok (.iconst (-1), 1) := by decide +kernel
theorem dX10_median_64 : decode cX10_median 64 = .ok (.if_icmp .ne 7, 3) := by decide +kernel
theorem dX10_median_67 : decode cX10_median 67 = .ok (.iconst 1, 1) := by decide +kernel
theorem dX10_median_68 : decode cX10_median 68 = .ok (.goto 4, 3) := by decide +kernel
theorem dX10_median_71 : decode cX10_median 71 = .ok (.iconst 0, 1) := by decide +kernel
theorem dX10_median_72 : decode cX10_median 72 = .ok (.invokevirtual 286, 3) := by decide +kernel
theorem dX10_median_75 : decode cX10_median 75 = .ok (.ifCond .eq 5, 3) := by decide +kernel
theorem dX10_median_78 : decode cX10_median 78 = .ok (.iconst 0, 1) := by decide +kernel
theorem dX10_median_79 : decode cX10_median 79 = .ok (.ireturn, 1) := by decide +kernel
theorem dX10_median_80 : decode cX10_median 80 = .ok (.iconst 0, 1) := by decide +kernel
theorem dX10_median_81 : decode cX10_median 81 = .ok (.istore 5, 2) := by decide +kernel
theorem dX10_median_83 : decode cX10_median 83 = .ok (.aload_n 0, 1) := by decide +kernel
theorem dX10_median_84 : decode cX10_median 84 = .ok (.iload 5, 2) := by decide +kernel
theorem dX10_median_86 : decode cX10_median 86 = .ok (.iload_n 1, 1) := by decide +kernel
theorem dX10_median_87 : decode cX10_median 87 = .ok (.iload_n 2, 1) := by decide +kernel
theorem dX10_median_88 : decode cX10_median 88 = .ok (.invokevirtual 301, 3) := by decide +kernel
theorem dX10_median_91 : decode cX10_median 91 = .ok (.ifCond .eq 25, 3) := by decide +kernel
theorem dX10_median_94 : decode cX10_median 94 = .ok (.aload_n 0, 1) := by decide +kernel
theorem dX10_median_95 : decode cX10_median 95 = .ok (.iload 5, 2) := by decide +kernel
theorem dX10_median_97 : decode cX10_median 97 = .ok (.iload_n 1, 1) := by decide +kernel
theorem dX10_median_98 : decode cX10_median 98 = .ok (.iload_n 3, 1) := by decide +kernel
theorem dX10_median_99 : decode cX10_median 99 = .ok (.invokevirtual 301, 3) := by decide +kernel
theorem dX10_median_102 : decode cX10_median 102 = .ok (.ifCond .eq 14, 3) := by decide +kernel
theorem dX10_median_105 : decode cX10_median 105 = .ok (.aload_n 0, 1) := by decide +kernel
theorem dX10_median_106 : decode cX10_median 106 = .ok (.iload 5, 2) := by decide +kernel
theorem dX10_median_108 : decode cX10_median 108 = .ok (.iload_n 2, 1) := by decide +kernel
theorem dX10_median_109 : decode cX10_median 109 = .ok (.iload_n 3, 1) := by decide +kernel
theorem dX10_median_110 : decode cX10_median 110 = .ok (.invokevirtual 301, 3) := by decide +kernel
theorem dX10_median_113 : decode cX10_median 113 = .ok (.ifCond .ne 9, 3) := by decide +kernel
theorem dX10_median_116 : decode cX10_median 116 = .ok (.iinc 5 1, 3) := by decide +kernel
theorem dX10_median_119 : decode cX10_median 119 = .ok (.goto (-36), 3) := by decide +kernel
theorem dX10_median_122 : decode cX10_median 122 = .ok (.iload 5, 2) := by decide +kernel
theorem dX10_median_124 : decode cX10_median 124 = .ok (.ireturn, 1) := by decide +kernel
theorem dX10_meanDistance_0 : decode cX10_meanDistance 0 = .ok (.aload_n 0, 1) := by decide +kernel
theorem dX10_meanDistance_1 : decode cX10_meanDistance 1 = .ok (.aload_n 0, 1) := by decide +kernel
theorem dX10_meanDistance_2 : decode cX10_meanDistance 2 = .ok (.iload_n 1, 1) := by decide +kernel
theorem dX10_meanDistance_3 : decode cX10_meanDistance 3 = .ok (.invokevirtual 283, 3) := by decide +kernel
theorem dX10_meanDistance_6 : decode cX10_meanDistance 6 = .ok (.ifCond .ne 7, 3) := by decide +kernel
theorem dX10_meanDistance_9 : decode cX10_meanDistance 9 = .ok (.iconst 1, 1) := by decide +kernel
theorem dX10_meanDistance_10 : decode cX10_meanDistance 10 = .ok (.goto 4, 3) := by decide +kernel
theorem dX10_meanDistance_13 : decode cX10_meanDistance 13 = .ok (.iconst 0, 1) := by decide +kernel
theorem dX10_meanDistance_14 : decode cX10_meanDistance 14 = .ok (.iconst 0, 1) := by decide +kernel
theorem dX10_meanDistance_15 : decode cX10_meanDistance 15 = .ok (.invokevirtual 286, 3) := by decide +kernel
theorem dX10_meanDistance_18 : decode cX10_meanDistance 18 = .ok (.ifCond .eq 5, 3) := by decide +kernel
theorem dX10_meanDistance_21 : decode cX10_meanDistance 21 = .ok (.dconst 0, 1) := by decide +kernel
theorem dX10_meanDistance_22 : decode cX10_meanDistance 22 = .ok (.dreturn, 1) := by decide +kernel
theorem dX10_meanDistance_23 : decode cX10_meanDistance 23 = .ok (.aload_n 0, 1) := by decide +kernel
theorem dX10_meanDistance_24 : decode cX10_meanDistance 24 = .ok (.iload_n 1, 1) := by decide +kernel
theorem dX10_meanDistance_25 : decode cX10_meanDistance 25 = .ok (.invokevirtual 84, 3) := by decide +kernel
theorem dX10_meanDistance_28 : decode cX10_meanDistance 28 = .ok (.istore_n 2, 1) := by decide +kernel
theorem dX10_meanDistance_29 : decode cX10_meanDistance 29 = .ok (.iconst 0, 1) := by decide +kernel
theorem dX10_meanDistance_30 : decode cX10_meanDistance 30 = .ok (.istore_n 3, 1) := by decide +kernel
theorem dX10_meanDistance_31 : decode cX10_meanDistance 31 = .ok (.iconst 0, 1) := by decide +kernel
theorem dX10_meanDistance_32 : decode cX10_meanDistance 32 = .ok (.istore 4, 2) := by decide +kernel
theorem dX10_meanDistance_34 : decode cX10_meanDistance 34 = .ok (.iload 4, 2) := by decide +kernel
theorem dX10_meanDistance_36 : decode cX10_meanDistance 36 = .ok (.aload_n 0, 1) := by decide +kernel
theorem dX10_meanDistance_37 : decode cX10_meanDistance 37 = .ok (.getfield 35, 3) := by decide +kernel
theorem dX10_meanDistance_40 : decode cX10_meanDistance 40 = .ok (.if_icmp .ge 32, 3) := by decide +kernel
theorem dX10_meanDistance_43 : decode cX10_meanDistance 43 = .ok (.iload_n 3, 1) := by decide +kernel
theorem dX10_meanDistance_44 : decode cX10_meanDistance 44 = .ok (.iload_n 2, 1) := by decide +kernel
theorem dX10_meanDistance_45 : decode cX10_meanDistance 45 = .ok (.iload 4, 2) := by decide +kernel
theorem dX10_meanDistance_47 : decode cX10_meanDistance 47 = .ok (.invokestatic 70, 3) := by decide +kernel
theorem dX10_meanDistance_50 : decode cX10_meanDistance 50 = .ok (.ifCond .eq 13, 3) := by decide +kernel
theorem dX10_meanDistance_53 : decode cX10_meanDistance 53 = .ok (.aload_n 0, 1) := by decide +kernel
theorem dX10_meanDistance_54 : decode cX10_meanDistance 54 = .ok (.iload_n 1, 1) := by decide +kernel
theorem dX10_meanDistance_55 : decode cX10_meanDistance 55 = .ok (.iload 4, 2) := by decide +kernel
theorem dX10_meanDistance_57 : decode cX10_meanDistance 57 = .ok (.invokevirtual 90, 3) := by decide +kernel
theorem dX10_meanDistance_60 : decode cX10_meanDistance 60 = .ok (.goto 4, 3) := by decide +kernel
theorem dX10_meanDistance_63 : decode cX10_meanDistance 63 = .ok (.iconst 0, 1) := by decide +kernel
theorem dX10_meanDistance_64 : decode cX10_meanDistance 64 = .ok (.iadd, 1) := by decide +kernel
theorem dX10_meanDistance_65 : decode cX10_meanDistance 65 = .ok (.istore_n 3, 1) := by decide +kernel
theorem dX10_meanDistance_66 : decode cX10_meanDistance 66 = .ok (.iinc 4 1, 3) := by decide +kernel
theorem dX10_meanDistance_69 : decode cX10_meanDistance 69 = .ok (.goto (-35), 3) := by decide +kernel
theorem dX10_meanDistance_72 : decode cX10_meanDistance 72 = .ok (.iload_n 3, 1) := by decide +kernel
theorem dX10_meanDistance_73 : decode cX10_meanDistance 73 = .ok (.i2d, 1) := by decide +kernel
theorem dX10_meanDistance_74 : decode cX10_meanDistance 74 = .ok (.iload_n 2, 1) := by decide +kernel
theorem dX10_meanDistance_75 : decode cX10_meanDistance 75 = .ok (.invokestatic 111, 3) := by decide +kernel
theorem dX10_meanDistance_78 : decode cX10_meanDistance 78 = .ok (.i2d, 1) := by decide +kernel
theorem dX10_meanDistance_79 : decode cX10_meanDistance 79 = .ok (.ddiv, 1) := by decide +kernel
theorem dX10_meanDistance_80 : decode cX10_meanDistance 80 = .ok (.dreturn, 1) := by decide +kernel
theorem dX10_balance_0 : decode cX10_balance 0 = .ok (.aload_n 0, 1) := by decide +kernel
theorem dX10_balance_1 : decode cX10_balance 1 = .ok (.aload_n 0, 1) := by decide +kernel
theorem dX10_balance_2 : decode cX10_balance 2 = .ok (.iload_n 1, 1) := by decide +kernel
theorem dX10_balance_3 : decode cX10_balance 3 = .ok (.invokevirtual 283, 3) := by decide +kernel
theorem dX10_balance_6 : decode cX10_balance 6 = .ok (.ifCond .ne 7, 3) := by decide +kernel
theorem dX10_balance_9 : decode cX10_balance 9 = .ok (.iconst 1, 1) := by decide +kernel
theorem dX10_balance_10 : decode cX10_balance 10 = .ok (.goto 4, 3) := by decide +kernel
theorem dX10_balance_13 : decode cX10_balance 13 = .ok (.iconst 0, 1) := by decide +kernel
theorem dX10_balance_14 : decode cX10_balance 14 = .ok (.iconst 0, 1) := by decide +kernel
theorem dX10_balance_15 : decode cX10_balance 15 = .ok (.invokevirtual 286, 3) := by decide +kernel
theorem dX10_balance_18 : decode cX10_balance 18 = .ok (.ifCond .eq 5, 3) := by decide +kernel
theorem dX10_balance_21 : decode cX10_balance 21 = .ok (.fconst 0, 1) := by decide +kernel
theorem dX10_balance_22 : decode cX10_balance 22 = .ok (.freturn, 1) := by decide +kernel
theorem dX10_balance_23 : decode cX10_balance 23 = .ok (.aload_n 0, 1) := by decide +kernel
theorem dX10_balance_24 : decode cX10_balance 24 = .ok (.iload_n 1, 1) := by decide +kernel
theorem dX10_balance_25 : decode cX10_balance 25 = .ok (.iconst 0, 1) := by decide +kernel
theorem dX10_balance_26 : decode cX10_balance 26 = .ok (.invokevirtual 105, 3) := by decide +kernel
theorem dX10_balance_29 : decode cX10_balance 29 = .ok (.i2f, 1) := by decide +kernel
theorem dX10_balance_30 : decode cX10_balance 30 = .ok (.aload_n 0, 1) := by decide +kernel
theorem dX10_balance_31 : decode cX10_balance 31 = .ok (.iload_n 1, 1) := by decide +kernel
theorem dX10_balance_32 : decode cX10_balance 32 = .ok (.invokevirtual 84, 3) := by decide +kernel
theorem dX10_balance_35 : decode cX10_balance 35 = .ok (.invokestatic 111, 3) := by decide +kernel
theorem dX10_balance_38 : decode cX10_balance 38 = .ok (.i2f, 1) := by decide +kernel
theorem dX10_balance_39 : decode cX10_balance 39 = .ok (.fdiv, 1) := by decide +kernel
theorem dX10_balance_40 : decode cX10_balance 40 = .ok (.freturn, 1) := by decide +kernel
theorem dX10_isTree_0 : decode cX10_isTree 0 = .ok (.aload_n 0, 1) := by decide +kernel
theorem dX10_isTree_1 : decode cX10_isTree 1 = .ok (.iconst 0, 1) := by decide +kernel
theorem dX10_isTree_2 : decode cX10_isTree 2 = .ok (.invokevirtual 84, 3) := by decide +kernel
theorem dX10_isTree_5 : decode cX10_isTree 5 = .ok (.iconst 1, 1) := by decide +kernel
theorem dX10_isTree_6 : decode cX10_isTree 6 = .ok (.aload_n 0, 1) := by decide +kernel
theorem dX10_isTree_7 : decode cX10_isTree 7 = .ok (.getfield 35, 3) := by decide +kernel
theorem dX10_isTree_10 : decode cX10_isTree 10 = .ok (.ishl, 1) := by decide +kernel
theorem dX10_isTree_11 : decode cX10_isTree 11 = .ok (.iconst 1, 1) := by decide +kernel
theorem dX10_isTree_12 : decode cX10_isTree 12 = .ok (.isub, 1) := by decide +kernel
theorem dX10_isTree_13 : decode cX10_isTree 13 = .ok (.if_icmp .ne 7, 3) := by decide +kernel
theorem dX10_isTree_16 : decode cX10_isTree 16 = .ok (.iconst 1, 1) := by decide +kernel
theorem dX10_isTree_17 : decode cX10_isTree 17 = .ok (.goto 4, 3) := by decide +kernel
theorem dX10_isTree_20 : decode cX10_isTree 20 = .ok (.iconst 0, 1) := by decide +kernel
theorem dX10_isTree_21 : decode cX10_isTree 21 = .ok (.ireturn, 1) := by decide +kernel
theorem dX10_laysCode_0 : decode cX10_laysCode 0 = .ok (.aload_n 0, 1) := by decide +kernel
theorem dX10_laysCode_1 : decode cX10_laysCode 1 = .ok (.invokevirtual 277, 3) := by decide +kernel
theorem dX10_laysCode_4 : decode cX10_laysCode 4 = .ok (.iconst 0, 1) := by decide +kernel
theorem dX10_laysCode_5 : decode cX10_laysCode 5 = .ok (.istore_n 1, 1) := by decide +kernel
theorem dX10_laysCode_6 : decode cX10_laysCode 6 = .ok (.iload_n 1, 1) := by decide +kernel
theorem dX10_laysCode_7 : decode cX10_laysCode 7 = .ok (.aload_n 0, 1) := by decide +kernel
theorem dX10_laysCode_8 : decode cX10_laysCode 8 = .ok (.getfield 35, 3) := by decide +kernel
theorem dX10_laysCode_11 : decode cX10_laysCode 11 = .ok (.invokestatic 215, 3) := by decide +kernel
theorem dX10_laysCode_14 : decode cX10_laysCode 14 = .ok (.if_icmp .ge 59, 3) := by decide +kernel
theorem dX10_laysCode_17 : decode cX10_laysCode 17 = .ok (.iconst 0, 1) := by decide +kernel
theorem dX10_laysCode_18 : decode cX10_laysCode 18 = .ok (.istore_n 2, 1) := by decide +kernel
theorem dX10_laysCode_19 : decode cX10_laysCode 19 = .ok (.aload_n 0, 1) := by decide +kernel
theorem dX10_laysCode_20 : decode cX10_laysCode 20 = .ok (.getfield 23, 3) := by decide +kernel
theorem dX10_laysCode_23 : decode cX10_laysCode 23 = .ok (.iload_n 2, 1) := by decide +kernel
theorem dX10_laysCode_24 : decode cX10_laysCode 24 = .ok (.iaload, 1) := by decide +kernel
theorem dX10_laysCode_25 : decode cX10_laysCode 25 = .ok (.invokestatic 111, 3) := by decide +kernel
theorem dX10_laysCode_28 : decode cX10_laysCode 28 = .ok (.iconst 1, 1) := by decide +kernel
theorem dX10_laysCode_29 : decode cX10_laysCode 29 = .ok (.if_icmp .eq 9, 3) := by decide +kernel
theorem dX10_laysCode_32 : decode cX10_laysCode 32 = .ok (.iinc 2 1, 3) := by decide +kernel
theorem dX10_laysCode_35 : decode cX10_laysCode 35 = .ok (.goto (-16), 3) := by decide +kernel
theorem dX10_laysCode_38 : decode cX10_laysCode 38 = .ok (.aload_n 0, 1) := by decide +kernel
theorem dX10_laysCode_39 : decode cX10_laysCode 39 = .ok (.getfield 44, 3) := by decide +kernel
theorem dX10_laysCode_42 : decode cX10_laysCode 42 = .ok (.iload_n 1, 1) := by decide +kernel
theorem dX10_laysCode_43 : decode cX10_laysCode 43 = .ok (.aload_n 0, 1) := by decide +kernel
theorem dX10_laysCode_44 : decode cX10_laysCode 44 = .ok (.getfield 23, 3) := by decide +kernel
theorem dX10_laysCode_47 : decode cX10_laysCode 47 = .ok (.iload_n 2, 1) := by decide +kernel
theorem dX10_laysCode_48 : decode cX10_laysCode 48 = .ok (.iaload, 1) := by decide +kernel
theorem dX10_laysCode_49 : decode cX10_laysCode 49 = .ok (.invokestatic 87, 3) := by decide +kernel
theorem dX10_laysCode_52 : decode cX10_laysCode 52 = .ok (.iastore, 1) := by decide +kernel
theorem dX10_laysCode_53 : decode cX10_laysCode 53 = .ok (.aload_n 0, 1) := by decide +kernel
theorem dX10_laysCode_54 : decode cX10_laysCode 54 = .ok (.getfield 23, 3) := by decide +kernel
theorem dX10_laysCode_57 : decode cX10_laysCode 57 = .ok (.iload_n 2, 1) := by decide +kernel
theorem dX10_laysCode_58 : decode cX10_laysCode 58 = .ok (.aload_n 0, 1) := by decide +kernel
theorem dX10_laysCode_59 : decode cX10_laysCode 59 = .ok (.getfield 44, 3) := by decide +kernel
theorem dX10_laysCode_62 : decode cX10_laysCode 62 = .ok (.iload_n 1, 1) := by decide +kernel
theorem dX10_laysCode_63 : decode cX10_laysCode 63 = .ok (.iaload, 1) := by decide +kernel
theorem dX10_laysCode_64 : decode cX10_laysCode 64 = .ok (.invokestatic 274, 3) := by decide +kernel
theorem dX10_laysCode_67 : decode cX10_laysCode 67 = .ok (.iinc 1 1, 3) := by decide +kernel
theorem dX10_laysCode_70 : decode cX10_laysCode 70 = .ok (.goto (-64), 3) := by decide +kernel
theorem dX10_laysCode_73 : decode cX10_laysCode 73 = .ok (.return_, 1) := by decide +kernel
theorem dX10_code_0 : decode cX10_code 0 = .ok (.aload_n 0, 1) := by decide +kernel
theorem dX10_code_1 : decode cX10_code 1 = .ok (.invokevirtual 304, 3) := by decide +kernel
theorem dX10_code_4 : decode cX10_code 4 = .ok (.istore_n 2, 1) := by decide +kernel
theorem dX10_code_5 : decode cX10_code 5 = .ok (.aload_n 0, 1) := by decide +kernel
theorem dX10_code_6 : decode cX10_code 6 = .ok (.iload_n 2, 1) := by decide +kernel
theorem dX10_code_7 : decode cX10_code 7 = .ok (.ifCond .ne 7, 3) := by decide +kernel
theorem dX10_code_10 : decode cX10_code 10 = .ok (.iconst 1, 1) := by decide +kernel
theorem dX10_code_11 : decode cX10_code 11 = .ok (.goto 4, 3) := by decide +kernel
theorem dX10_code_14 : decode cX10_code 14 = .ok (.iconst 0, 1) := by decide +kernel
theorem dX10_code_15 : decode cX10_code 15 = .ok (.iload_n 2, 1) := by decide +kernel
theorem dX10_code_16 : decode cX10_code 16 = .ok (.ifCond .eq 24, 3) := by decide +kernel
theorem dX10_code_19 : decode cX10_code 19 = .ok (.iload_n 1, 1) := by decide +kernel
theorem dX10_code_20 : decode cX10_code 20 = .ok (.iconst 0, 1) := by decide +kernel
theorem dX10_code_21 : decode cX10_code 21 = .ok (.aload_n 0, 1) := by decide +kernel
theorem dX10_code_22 : decode cX10_code 22 = .ok (.getfield 35, 3) := by decide +kernel
theorem dX10_code_25 : decode cX10_code 25 = .ok (.invokestatic 215, 3) := by decide +kernel
theorem dX10_code_28 : decode cX10_code 28 = .ok (.iconst 1, 1) := by decide +kernel
theorem dX10_code_29 : decode cX10_code 29 = .ok (.isub, 1) := by decide +kernel
theorem dX10_code_30 : decode cX10_code 30 = .ok (.invokestatic 153, 3) := by decide +kernel
theorem dX10_code_33 : decode cX10_code 33 = .ok (.ifCond .ne 7, 3) := by decide +kernel
theorem dX10_code_36 : decode cX10_code 36 = .ok (.iconst 1, 1) := by decide +kernel
theorem dX10_code_37 : decode cX10_code 37 = .ok (.goto 4, 3) := by decide +kernel
theorem dX10_code_40 : decode cX10_code 40 = .ok (.iconst 0, 1) := by decide +kernel
theorem dX10_code_41 : decode cX10_code 41 = .ok (.invokevirtual 286, 3) := by decide +kernel
theorem dX10_code_44 : decode cX10_code 44 = .ok (.ifCond .eq 5, 3) := by decide +kernel
theorem dX10_code_47 : decode cX10_code 47 = .ok (.iconst 0, 1) := by decide +kernel
theorem dX10_code_48 : decode cX10_code 48 = .ok (.ireturn, 1) := by decide +kernel
theorem dX10_code_49 : decode cX10_code 49 = .ok (.aload_n 0, 1) := by decide +kernel
theorem dX10_code_50 : decode cX10_code 50 = .ok (.invokevirtual 307, 3) := by decide +kernel
theorem dX10_code_53 : decode cX10_code 53 = .ok (.aload_n 0, 1) := by decide +kernel
theorem dX10_code_54 : decode cX10_code 54 = .ok (.getfield 44, 3) := by decide +kernel
theorem dX10_code_57 : decode cX10_code 57 = .ok (.iload_n 1, 1) := by decide +kernel
theorem dX10_code_58 : decode cX10_code 58 = .ok (.iaload, 1) := by decide +kernel
theorem dX10_code_59 : decode cX10_code 59 = .ok (.ireturn, 1) := by decide +kernel
theorem dX10_rankNow_0 : decode cX10_rankNow 0 = .ok (.aload_n 0, 1) := by decide +kernel
theorem dX10_rankNow_1 : decode cX10_rankNow 1 = .ok (.invokevirtual 307, 3) := by decide +kernel
theorem dX10_rankNow_4 : decode cX10_rankNow 4 = .ok (.iconst 0, 1) := by decide +kernel
theorem dX10_rankNow_5 : decode cX10_rankNow 5 = .ok (.istore_n 1, 1) := by decide +kernel
theorem dX10_rankNow_6 : decode cX10_rankNow 6 = .ok (.iconst 0, 1) := by decide +kernel
theorem dX10_rankNow_7 : decode cX10_rankNow 7 = .ok (.istore_n 2, 1) := by decide +kernel
theorem dX10_rankNow_8 : decode cX10_rankNow 8 = .ok (.iload_n 2, 1) := by decide +kernel
theorem dX10_rankNow_9 : decode cX10_rankNow 9 = .ok (.aload_n 0, 1) := by decide +kernel
theorem dX10_rankNow_10 : decode cX10_rankNow 10 = .ok (.getfield 35, 3) := by decide +kernel
theorem dX10_rankNow_13 : decode cX10_rankNow 13 = .ok (.invokestatic 215, 3) := by decide +kernel
theorem dX10_rankNow_16 : decode cX10_rankNow 16 = .ok (.if_icmp .ge 23, 3) := by decide +kernel
theorem dX10_rankNow_19 : decode cX10_rankNow 19 = .ok (.aload_n 0, 1) := by decide +kernel
theorem dX10_rankNow_20 : decode cX10_rankNow 20 = .ok (.getfield 35, 3) := by decide +kernel
theorem dX10_rankNow_23 : decode cX10_rankNow 23 = .ok (.iload_n 1, 1) := by decide +kernel
theorem dX10_rankNow_24 : decode cX10_rankNow 24 = .ok (.imul, 1) := by decide +kernel
theorem dX10_rankNow_25 : decode cX10_rankNow 25 = .ok (.aload_n 0, 1) := by decide +kernel
theorem dX10_rankNow_26 : decode cX10_rankNow 26 = .ok (.getfield 44, 3) := by decide +kernel
theorem dX10_rankNow_29 : decode cX10_rankNow 29 = .ok (.iload_n 2, 1) := by decide +kernel
theorem dX10_rankNow_30 : decode cX10_rankNow 30 = .ok (.iaload, 1) := by decide +kernel
theorem dX10_rankNow_31 : decode cX10_rankNow 31 = .ok (.iadd, 1) := by decide +kernel
theorem dX10_rankNow_32 : decode cX10_rankNow 32 = .ok (.istore_n 1, 1) := by decide +kernel
theorem dX10_rankNow_33 : decode cX10_rankNow 33 = .ok (.iinc 2 1, 3) := by decide +kernel
theorem dX10_rankNow_36 : decode cX10_rankNow 36 = .ok (.goto (-28), 3) := by decide +kernel
theorem dX10_rankNow_39 : decode cX10_rankNow 39 = .ok (.iload_n 1, 1) := by decide +kernel
theorem dX10_rankNow_40 : decode cX10_rankNow 40 = .ok (.ireturn, 1) := by decide +kernel
theorem dX10_rank_0 : decode cX10_rank 0 = .ok (.aload_n 0, 1) := by decide +kernel
theorem dX10_rank_1 : decode cX10_rank 1 = .ok (.aload_n 0, 1) := by decide +kernel
theorem dX10_rank_2 : decode cX10_rank 2 = .ok (.invokevirtual 304, 3) := by decide +kernel
theorem dX10_rank_5 : decode cX10_rank 5 = .ok (.ifCond .ne 7, 3) := by decide +kernel
theorem dX10_rank_8 : decode cX10_rank 8 = .ok (.iconst 1, 1) := by decide +kernel
theorem dX10_rank_9 : decode cX10_rank 9 = .ok (.goto 4, 3) := by decide +kernel
theorem dX10_rank_12 : decode cX10_rank 12 = .ok (.iconst 0, 1) := by decide +kernel
theorem dX10_rank_13 : decode cX10_rank 13 = .ok (.iconst 0, 1) := by decide +kernel
theorem dX10_rank_14 : decode cX10_rank 14 = .ok (.invokevirtual 286, 3) := by decide +kernel
theorem dX10_rank_17 : decode cX10_rank 17 = .ok (.ifCond .eq 7, 3) := by decide +kernel
theorem dX10_rank_20 : decode cX10_rank 20 = .ok (.iconst 0, 1) := by decide +kernel
theorem dX10_rank_21 : decode cX10_rank 21 = .ok (.goto 7, 3) := by decide +kernel
theorem dX10_rank_24 : decode cX10_rank 24 = .ok (.aload_n 0, 1) := by decide +kernel
theorem dX10_rank_25 : decode cX10_rank 25 = .ok (.invokevirtual 310, 3) := by decide +kernel
theorem dX10_rank_28 : decode cX10_rank 28 = .ok (.ireturn, 1) := by decide +kernel
theorem dX10_ranks_0 : decode cX10_ranks 0 = .ok (.iconst 1, 1) := by decide +kernel
theorem dX10_ranks_1 : decode cX10_ranks 1 = .ok (.istore_n 1, 1) := by decide +kernel
theorem dX10_ranks_2 : decode cX10_ranks 2 = .ok (.iconst 0, 1) := by decide +kernel
theorem dX10_ranks_3 : decode cX10_ranks 3 = .ok (.istore_n 2, 1) := by decide +kernel
theorem dX10_ranks_4 : decode cX10_ranks 4 = .ok (.iload_n 2, 1) := by decide +kernel
theorem dX10_ranks_5 : decode cX10_ranks 5 = .ok (.iload_n 0, 1) := by decide +kernel
theorem dX10_ranks_6 : decode cX10_ranks 6 = .ok (.invokestatic 215, 3) := by decide +kernel
theorem dX10_ranks_9 : decode cX10_ranks 9 = .ok (.if_icmp .ge 13, 3) := by decide +kernel
theorem dX10_ranks_12 : decode cX10_ranks 12 = .ok (.iload_n 1, 1) := by decide +kernel
theorem dX10_ranks_13 : decode cX10_ranks 13 = .ok (.iload_n 0, 1) := by decide +kernel
theorem dX10_ranks_14 : decode cX10_ranks 14 = .ok (.imul, 1) := by decide +kernel
theorem dX10_ranks_15 : decode cX10_ranks 15 = .ok (.istore_n 1, 1) := by decide +kernel
theorem dX10_ranks_16 : decode cX10_ranks 16 = .ok (.iinc 2 1, 3) := by decide +kernel
theorem dX10_ranks_19 : decode cX10_ranks 19 = .ok (.goto (-15), 3) := by decide +kernel
theorem dX10_ranks_22 : decode cX10_ranks 22 = .ok (.iload_n 1, 1) := by decide +kernel
theorem dX10_ranks_23 : decode cX10_ranks 23 = .ok (.ireturn, 1) := by decide +kernel
theorem dX10_decodes_0 : decode cX10_decodes 0 = .ok (.iload_n 1, 1) := by decide +kernel
theorem dX10_decodes_1 : decode cX10_decodes 1 = .ok (.istore_n 3, 1) := by decide +kernel
theorem dX10_decodes_2 : decode cX10_decodes 2 = .ok (.iload_n 2, 1) := by decide +kernel
theorem dX10_decodes_3 : decode cX10_decodes 3 = .ok (.invokestatic 215, 3) := by decide +kernel
theorem dX10_decodes_6 : decode cX10_decodes 6 = .ok (.iconst 1, 1) := by decide +kernel
theorem dX10_decodes_7 : decode cX10_decodes 7 = .ok (.isub, 1) := by decide +kernel
theorem dX10_decodes_8 : decode cX10_decodes 8 = .ok (.istore 4, 2) := by decide +kernel
theorem dX10_decodes_10 : decode cX10_decodes 10 = .ok (.iload 4, 2) := by decide +kernel
theorem dX10_decodes_12 : decode cX10_decodes 12 = .ok (.ifCond .lt 23, 3) := by decide +kernel
theorem dX10_decodes_15 : decode cX10_decodes 15 = .ok (.aload_n 0, 1) := by decide +kernel
theorem dX10_decodes_16 : decode cX10_decodes 16 = .ok (.getfield 44, 3) := by decide +kernel
theorem dX10_decodes_19 : decode cX10_decodes 19 = .ok (.iload 4, 2) := by decide +kernel
theorem dX10_decodes_21 : decode cX10_decodes 21 = .ok (.iload_n 3, 1) := by decide +kernel
theorem dX10_decodes_22 : decode cX10_decodes 22 = .ok (.iload_n 2, 1) := by decide +kernel
theorem dX10_decodes_23 : decode cX10_decodes 23 = .ok (.irem, 1) := by decide +kernel
theorem dX10_decodes_24 : decode cX10_decodes 24 = .ok (.iastore, 1) := by decide +kernel
theorem dX10_decodes_25 : decode cX10_decodes 25 = .ok (.iload_n 3, 1) := by decide +kernel
theorem dX10_decodes_26 : decode cX10_decodes 26 = .ok (.iload_n 2, 1) := by decide +kernel
theorem dX10_decodes_27 : decode cX10_decodes 27 = .ok (.idiv, 1) := by decide +kernel
theorem dX10_decodes_28 : decode cX10_decodes 28 = .ok (.istore_n 3, 1) := by decide +kernel
theorem dX10_decodes_29 : decode cX10_decodes 29 = .ok (.iinc 4 (-1), 3) := by decide +kernel
theorem dX10_decodes_32 : decode cX10_decodes 32 = .ok (.goto (-22), 3) := by decide +kernel
theorem dX10_decodes_35 : decode cX10_decodes 35 = .ok (.return_, 1) := by decide +kernel
theorem dX10_factorial_0 : decode cX10_factorial 0 = .ok (.lconst 1, 1) := by decide +kernel
theorem dX10_factorial_1 : decode cX10_factorial 1 = .ok (.lstore_n 1, 1) := by decide +kernel
theorem dX10_factorial_2 : decode cX10_factorial 2 = .ok (.iconst 2, 1) := by decide +kernel
theorem dX10_factorial_3 : decode cX10_factorial 3 = .ok (.istore_n 3, 1) := by decide +kernel
theorem dX10_factorial_4 : decode cX10_factorial 4 = .ok (.iload_n 3, 1) := by decide +kernel
theorem dX10_factorial_5 : decode cX10_factorial 5 = .ok (.iload_n 0, 1) := by decide +kernel
theorem dX10_factorial_6 : decode cX10_factorial 6 = .ok (.if_icmp .gt 14, 3) := by decide +kernel
theorem dX10_factorial_9 : decode cX10_factorial 9 = .ok (.lload_n 1, 1) := by decide +kernel
theorem dX10_factorial_10 : decode cX10_factorial 10 = .ok (.iload_n 3, 1) := by decide +kernel
theorem dX10_factorial_11 : decode cX10_factorial 11 = .ok (.i2l, 1) := by decide +kernel
theorem dX10_factorial_12 : decode cX10_factorial 12 = .ok (.lmul, 1) := by decide +kernel
theorem dX10_factorial_13 : decode cX10_factorial 13 = .ok (.lstore_n 1, 1) := by decide +kernel
theorem dX10_factorial_14 : decode cX10_factorial 14 = .ok (.iinc 3 1, 3) := by decide +kernel
theorem dX10_factorial_17 : decode cX10_factorial 17 = .ok (.goto (-13), 3) := by decide +kernel
theorem dX10_factorial_20 : decode cX10_factorial 20 = .ok (.lload_n 1, 1) := by decide +kernel
theorem dX10_factorial_21 : decode cX10_factorial 21 = .ok (.lreturn, 1) := by decide +kernel
theorem dX10_sameDegrees_0 : decode cX10_sameDegrees 0 = .ok (.aload_n 0, 1) := by decide +kernel
theorem dX10_sameDegrees_1 : decode cX10_sameDegrees 1 = .ok (.aload_n 0, 1) := by decide +kernel
theorem dX10_sameDegrees_2 : decode cX10_sameDegrees 2 = .ok (.invokevirtual 304, 3) := by decide +kernel
theorem dX10_sameDegrees_5 : decode cX10_sameDegrees 5 = .ok (.ifCond .ne 7, 3) := by decide +kernel
theorem dX10_sameDegrees_8 : decode cX10_sameDegrees 8 = .ok (.iconst 1, 1) := by decide +kernel
theorem dX10_sameDegrees_9 : decode cX10_sameDegrees 9 = .ok (.goto 4, 3) := by decide +kernel
theorem dX10_sameDegrees_12 : decode cX10_sameDegrees 12 = .ok (.iconst 0, 1) := by decide +kernel
theorem dX10_sameDegrees_13 : decode cX10_sameDegrees 13 = .ok (.iconst 0, 1) := by decide +kernel
theorem dX10_sameDegrees_14 : decode cX10_sameDegrees 14 = .ok (.invokevirtual 286, 3) := by decide +kernel
theorem dX10_sameDegrees_17 : decode cX10_sameDegrees 17 = .ok (.ifCond .eq 5, 3) := by decide +kernel
theorem dX10_sameDegrees_20 : decode cX10_sameDegrees 20 = .ok (.iconst 0, 1) := by decide +kernel
theorem dX10_sameDegrees_21 : decode cX10_sameDegrees 21 = .ok (.ireturn, 1) := by decide +kernel
theorem dX10_sameDegrees_22 : decode cX10_sameDegrees 22 = .ok (.aload_n 0, 1) := by decide +kernel
theorem dX10_sameDegrees_23 : decode cX10_sameDegrees 23 = .ok (.getfield 35, 3) := by decide +kernel
theorem dX10_sameDegrees_26 : decode cX10_sameDegrees 26 = .ok (.iconst 1, 1) := by decide +kernel
theorem dX10_sameDegrees_27 : decode cX10_sameDegrees 27 = .ok (.if_icmp .ne 5, 3) := by decide +kernel
theorem dX10_sameDegrees_30 : decode cX10_sameDegrees 30 = .ok (.iconst 1, 1) := by decide +kernel
theorem dX10_sameDegrees_31 : decode cX10_sameDegrees 31 = .ok (.ireturn, 1) := by decide +kernel
theorem dX10_sameDegrees_32 : decode cX10_sameDegrees 32 = .ok (.aload_n 0, 1) := by decide +kernel
theorem dX10_sameDegrees_33 : decode cX10_sameDegrees 33 = .ok (.getfield 35, 3) := by decide +kernel
theorem dX10_sameDegrees_36 : decode cX10_sameDegrees 36 = .ok (.iconst 2, 1) := by decide +kernel
theorem dX10_sameDegrees_37 : decode cX10_sameDegrees 37 = .ok (.isub, 1) := by decide +kernel
theorem dX10_sameDegrees_38 : decode cX10_sameDegrees 38 = .ok (.invokestatic 313, 3) := by decide +kernel
theorem dX10_sameDegrees_41 : decode cX10_sameDegrees 41 = .ok (.lstore_n 1, 1) := by decide +kernel
theorem dX10_sameDegrees_42 : decode cX10_sameDegrees 42 = .ok (.iconst 0, 1) := by decide +kernel
theorem dX10_sameDegrees_43 : decode cX10_sameDegrees 43 = .ok (.istore_n 3, 1) := by decide +kernel
theorem dX10_sameDegrees_44 : decode cX10_sameDegrees 44 = .ok (.iload_n 3, 1) := by decide +kernel
theorem dX10_sameDegrees_45 : decode cX10_sameDegrees 45 = .ok (.aload_n 0, 1) := by decide +kernel
theorem dX10_sameDegrees_46 : decode cX10_sameDegrees 46 = .ok (.getfield 35, 3) := by decide +kernel
theorem dX10_sameDegrees_49 : decode cX10_sameDegrees 49 = .ok (.if_icmp .ge 26, 3) := by decide +kernel
theorem dX10_sameDegrees_52 : decode cX10_sameDegrees 52 = .ok (.lload_n 1, 1) := by decide +kernel
theorem dX10_sameDegrees_53 : decode cX10_sameDegrees 53 = .ok (.aload_n 0, 1) := by decide +kernel
theorem dX10_sameDegrees_54 : decode cX10_sameDegrees 54 = .ok (.getfield 19, 3) := by decide +kernel
theorem dX10_sameDegrees_57 : decode cX10_sameDegrees 57 = .ok (.iload_n 3, 1) := by decide +kernel
theorem dX10_sameDegrees_58 : decode cX10_sameDegrees 58 = .ok (.iaload, 1) := by decide +kernel
theorem dX10_sameDegrees_59 : decode cX10_sameDegrees 59 = .ok (.invokestatic 111, 3) := by decide +kernel
theorem dX10_sameDegrees_62 : decode cX10_sameDegrees 62 = .ok (.iconst 1, 1) := by decide +kernel
theorem dX10_sameDegrees_63 : decode cX10_sameDegrees 63 = .ok (.isub, 1) := by decide +kernel
theorem dX10_sameDegrees_64 : decode cX10_sameDegrees 64 = .ok (.invokestatic 313, 3) := by decide +kernel
theorem dX10_sameDegrees_67 : decode cX10_sameDegrees 67 = .ok (.ldiv, 1) := by decide +kernel
theorem dX10_sameDegrees_68 : decode cX10_sameDegrees 68 = .ok (.lstore_n 1, 1) := by decide +kernel
theorem dX10_sameDegrees_69 : decode cX10_sameDegrees 69 = .ok (.iinc 3 1, 3) := by decide +kernel
theorem dX10_sameDegrees_72 : decode cX10_sameDegrees 72 = .ok (.goto (-28), 3) := by decide +kernel
theorem dX10_sameDegrees_75 : decode cX10_sameDegrees 75 = .ok (.lload_n 1, 1) := by decide +kernel
theorem dX10_sameDegrees_76 : decode cX10_sameDegrees 76 = .ok (.l2i, 1) := by decide +kernel
theorem dX10_sameDegrees_77 : decode cX10_sameDegrees 77 = .ok (.ireturn, 1) := by decide +kernel
theorem dX10_says_0 : decode cX10_says 0 = .ok (.aload_n 0, 1) := by decide +kernel
theorem dX10_says_1 : decode cX10_says 1 = .ok (.getfield 47, 3) := by decide +kernel
theorem dX10_says_4 : decode cX10_says 4 = .ok (.aload_n 0, 1) := by decide +kernel
theorem dX10_says_5 : decode cX10_says 5 = .ok (.getfield 317, 3) := by decide +kernel
theorem dX10_says_8 : decode cX10_says 8 = .ok (.iload_n 1, 1) := by decide +kernel
theorem dX10_says_9 : decode cX10_says 9 = .ok (.iastore, 1) := by decide +kernel
theorem dX10_says_10 : decode cX10_says 10 = .ok (.aload_n 0, 1) := by decide +kernel
theorem dX10_says_11 : decode cX10_says 11 = .ok (.dup, 1) := by decide +kernel
theorem dX10_says_12 : decode cX10_says 12 = .ok (.getfield 317, 3) := by decide +kernel
theorem dX10_says_15 : decode cX10_says 15 = .ok (.iconst 1, 1) := by decide +kernel
theorem dX10_says_16 : decode cX10_says 16 = .ok (.iadd, 1) := by decide +kernel
theorem dX10_says_17 : decode cX10_says 17 = .ok (.putfield 317, 3) := by decide +kernel
theorem dX10_says_20 : decode cX10_says 20 = .ok (.return_, 1) := by decide +kernel
theorem dX10_saysWord_0 : decode cX10_saysWord 0 = .ok (.iconst 0, 1) := by decide +kernel
theorem dX10_saysWord_1 : decode cX10_saysWord 1 = .ok (.istore_n 2, 1) := by decide +kernel
theorem dX10_saysWord_2 : decode cX10_saysWord 2 = .ok (.iload_n 2, 1) := by decide +kernel
theorem dX10_saysWord_3 : decode cX10_saysWord 3 = .ok (.aload_n 1, 1) := by decide +kernel
theorem dX10_saysWord_4 : decode cX10_saysWord 4 = .ok (.invokevirtual 181, 3) := by decide +kernel
theorem dX10_saysWord_7 : decode cX10_saysWord 7 = .ok (.if_icmp .ge 18, 3) := by decide +kernel
theorem dX10_saysWord_10 : decode cX10_saysWord 10 = .ok (.aload_n 0, 1) := by decide +kernel
theorem dX10_saysWord_11 : decode cX10_saysWord 11 = .ok (.aload_n 1, 1) := by decide +kernel
theorem dX10_saysWord_12 : decode cX10_saysWord 12 = .ok (.iload_n 2, 1) := by decide +kernel
theorem dX10_saysWord_13 : decode cX10_saysWord 13 = .ok (.invokevirtual 186, 3) := by decide +kernel
theorem dX10_saysWord_16 : decode cX10_saysWord 16 = .ok (.invokevirtual 320, 3) := by decide +kernel
theorem dX10_saysWord_19 : decode cX10_saysWord 19 = .ok (.iinc 2 1, 3) := by decide +kernel
theorem dX10_saysWord_22 : decode cX10_saysWord 22 = .ok (.goto (-20), 3) := by decide +kernel
theorem dX10_saysWord_25 : decode cX10_saysWord 25 = .ok (.return_, 1) := by decide +kernel
theorem dX10_saysNumber_0 : decode cX10_saysNumber 0 = .ok (.aload_n 0, 1) := by decide +kernel
theorem dX10_saysNumber_1 : decode cX10_saysNumber 1 = .ok (.bipush 32, 2) := by decide +kernel
theorem dX10_saysNumber_3 : decode cX10_saysNumber 3 = .ok (.invokevirtual 320, 3) := by decide +kernel
theorem dX10_saysNumber_6 : decode cX10_saysNumber 6 = .ok (.iload_n 1, 1) := by decide +kernel
theorem dX10_saysNumber_7 : decode cX10_saysNumber 7 = .ok (.bipush 9, 2) := by decide +kernel
theorem dX10_saysNumber_9 : decode cX10_saysNumber 9 = .ok (.if_icmp .le 14, 3) := by decide +kernel
theorem dX10_saysNumber_12 : decode cX10_saysNumber 12 = .ok (.aload_n 0, 1) := by decide +kernel
theorem dX10_saysNumber_13 : decode cX10_saysNumber 13 = .ok (.bipush 48, 2) := by decide +kernel
theorem dX10_saysNumber_15 : decode cX10_saysNumber 15 = .ok (.iload_n 1, 1) := by decide +kernel
theorem dX10_saysNumber_16 : decode cX10_saysNumber 16 = .ok (.bipush 10, 2) := by decide +kernel
theorem dX10_saysNumber_18 : decode cX10_saysNumber 18 = .ok (.idiv, 1) := by decide +kernel
theorem dX10_saysNumber_19 : decode cX10_saysNumber 19 = .ok (.iadd, 1) := by decide +kernel
theorem dX10_saysNumber_20 : decode cX10_saysNumber 20 = .ok (.invokevirtual 320, 3) := by decide +kernel
theorem dX10_saysNumber_23 : decode cX10_saysNumber 23 = .ok (.aload_n 0, 1) := by decide +kernel
theorem dX10_saysNumber_24 : decode cX10_saysNumber 24 = .ok (.bipush 48, 2) := by decide +kernel
theorem dX10_saysNumber_26 : decode cX10_saysNumber 26 = .ok (.iload_n 1, 1) := by decide +kernel
theorem dX10_saysNumber_27 : decode cX10_saysNumber 27 = .ok (.bipush 10, 2) := by decide +kernel
theorem dX10_saysNumber_29 : decode cX10_saysNumber 29 = .ok (.irem, 1) := by decide +kernel
theorem dX10_saysNumber_30 : decode cX10_saysNumber 30 = .ok (.iadd, 1) := by decide +kernel
theorem dX10_saysNumber_31 : decode cX10_saysNumber 31 = .ok (.invokevirtual 320, 3) := by decide +kernel
theorem dX10_saysNumber_34 : decode cX10_saysNumber 34 = .ok (.return_, 1) := by decide +kernel
theorem dX10_writeWord_0 : decode cX10_writeWord 0 = .ok (.aload_n 0, 1) := by decide +kernel
theorem dX10_writeWord_1 : decode cX10_writeWord 1 = .ok (.aload_n 0, 1) := by decide +kernel
theorem dX10_writeWord_2 : decode cX10_writeWord 2 = .ok (.iload_n 1, 1) := by decide +kernel
theorem dX10_writeWord_3 : decode cX10_writeWord 3 = .ok (.invokevirtual 295, 3) := by decide +kernel
theorem dX10_writeWord_6 : decode cX10_writeWord 6 = .ok (.ifCond .ne 7, 3) := by decide +kernel
theorem dX10_writeWord_9 : decode cX10_writeWord 9 = .ok (.iconst 1, 1) := by decide +kernel
theorem dX10_writeWord_10 : decode cX10_writeWord 10 = .ok (.goto 4, 3) := by decide +kernel
theorem dX10_writeWord_13 : decode cX10_writeWord 13 = .ok (.iconst 0, 1) := by decide +kernel
theorem dX10_writeWord_14 : decode cX10_writeWord 14 = .ok (.iconst 0, 1) := by decide +kernel
theorem dX10_writeWord_15 : decode cX10_writeWord 15 = .ok (.invokevirtual 286, 3) := by decide +kernel
theorem dX10_writeWord_18 : decode cX10_writeWord 18 = .ok (.ifCond .eq 5, 3) := by decide +kernel
theorem dX10_writeWord_21 : decode cX10_writeWord 21 = .ok (.iconst 0, 1) := by decide +kernel
theorem dX10_writeWord_22 : decode cX10_writeWord 22 = .ok (.ireturn, 1) := by decide +kernel
theorem dX10_writeWord_23 : decode cX10_writeWord 23 = .ok (.aload_n 0, 1) := by decide +kernel
theorem dX10_writeWord_24 : decode cX10_writeWord 24 = .ok (.iconst 0, 1) := by decide +kernel
theorem dX10_writeWord_25 : decode cX10_writeWord 25 = .ok (.putfield 317, 3) := by decide +kernel
theorem dX10_writeWord_28 : decode cX10_writeWord 28 = .ok (.aload_n 0, 1) := by decide +kernel
theorem dX10_writeWord_29 : decode cX10_writeWord 29 = .ok (.aload_n 0, 1) := by decide +kernel
theorem dX10_writeWord_30 : decode cX10_writeWord 30 = .ok (.iload_n 1, 1) := by decide +kernel
theorem dX10_writeWord_31 : decode cX10_writeWord 31 = .ok (.invokevirtual 133, 3) := by decide +kernel
theorem dX10_writeWord_34 : decode cX10_writeWord 34 = .ok (.invokevirtual 136, 3) := by decide +kernel
theorem dX10_writeWord_37 : decode cX10_writeWord 37 = .ok (.istore_n 2, 1) := by decide +kernel
theorem dX10_writeWord_38 : decode cX10_writeWord 38 = .ok (.iconst 2, 1) := by decide +kernel
theorem dX10_writeWord_39 : decode cX10_writeWord 39 = .ok (.iload_n 2, 1) := by decide +kernel
theorem dX10_writeWord_40 : decode cX10_writeWord 40 = .ok (.invokestatic 111, 3) := by decide +kernel
theorem dX10_writeWord_43 : decode cX10_writeWord 43 = .ok (.imul, 1) := by decide +kernel
theorem dX10_writeWord_44 : decode cX10_writeWord 44 = .ok (.iconst 1, 1) := by decide +kernel
theorem dX10_writeWord_45 : decode cX10_writeWord 45 = .ok (.isub, 1) := by decide +kernel
theorem dX10_writeWord_46 : decode cX10_writeWord 46 = .ok (.istore_n 3, 1) := by decide +kernel
theorem dX10_writeWord_47 : decode cX10_writeWord 47 = .ok (.iload_n 3, 1) := by decide +kernel
theorem dX10_writeWord_48 : decode cX10_writeWord 48 = .ok (.ifCond .lt 28, 3) := by decide +kernel
theorem dX10_writeWord_51 : decode cX10_writeWord 51 = .ok (.aload_n 0, 1) := by decide +kernel
theorem dX10_writeWord_52 : decode cX10_writeWord 52 = .ok (.iload_n 2, 1) := by decide +kernel
theorem dX10_writeWord_53 : decode cX10_writeWord 53 = .ok (.iload_n 3, 1) := by decide +kernel
theorem dX10_writeWord_54 : decode cX10_writeWord 54 = .ok (.invokestatic 70, 3) := by decide +kernel
theorem dX10_writeWord_57 : decode cX10_writeWord 57 = .ok (.ifCond .eq 8, 3) := by decide +kernel
theorem dX10_writeWord_60 : decode cX10_writeWord 60 = .ok (.bipush 41, 2) := by decide +kernel
theorem dX10_writeWord_62 : decode cX10_writeWord 62 = .ok (.goto 5, 3) := by decide +kernel
theorem dX10_writeWord_65 : decode cX10_writeWord 65 = .ok (.bipush 40, 2) := by decide +kernel
theorem dX10_writeWord_67 : decode cX10_writeWord 67 = .ok (.invokevirtual 320, 3) := by decide +kernel
theorem dX10_writeWord_70 : decode cX10_writeWord 70 = .ok (.iinc 3 (-1), 3) := by decide +kernel
theorem dX10_writeWord_73 : decode cX10_writeWord 73 = .ok (.goto (-26), 3) := by decide +kernel
theorem dX10_writeWord_76 : decode cX10_writeWord 76 = .ok (.aload_n 0, 1) := by decide +kernel
theorem dX10_writeWord_77 : decode cX10_writeWord 77 = .ok (.getfield 317, 3) := by decide +kernel
theorem dX10_writeWord_80 : decode cX10_writeWord 80 = .ok (.ireturn, 1) := by decide +kernel
theorem dX10_writeText_0 : decode cX10_writeText 0 = .ok (.aload_n 0, 1) := by decide +kernel
theorem dX10_writeText_1 : decode cX10_writeText 1 = .ok (.iconst 0, 1) := by decide +kernel
theorem dX10_writeText_2 : decode cX10_writeText 2 = .ok (.putfield 1, 3) := by decide +kernel
theorem dX10_writeText_5 : decode cX10_writeText 5 = .ok (.aload_n 0, 1) := by decide +kernel
theorem dX10_writeText_6 : decode cX10_writeText 6 = .ok (.iconst 0, 1) := by decide +kernel
theorem dX10_writeText_7 : decode cX10_writeText 7 = .ok (.putfield 317, 3) := by decide +kernel
theorem dX10_writeText_10 : decode cX10_writeText 10 = .ok (.aload_n 0, 1) := by decide +kernel
theorem dX10_writeText_11 : decode cX10_writeText 11 = .ok (.ldc 251, 2) := by decide +kernel
theorem dX10_writeText_13 : decode cX10_writeText 13 = .ok (.invokevirtual 323, 3) := by decide +kernel
theorem dX10_writeText_16 : decode cX10_writeText 16 = .ok (.aload_n 0, 1) := by decide +kernel
theorem dX10_writeText_17 : decode cX10_writeText 17 = .ok (.aload_n 0, 1) := by decide +kernel
theorem dX10_writeText_18 : decode cX10_writeText 18 = .ok (.getfield 35, 3) := by decide +kernel
theorem dX10_writeText_21 : decode cX10_writeText 21 = .ok (.invokevirtual 327, 3) := by decide +kernel
theorem dX10_writeText_24 : decode cX10_writeText 24 = .ok (.aload_n 0, 1) := by decide +kernel
theorem dX10_writeText_25 : decode cX10_writeText 25 = .ok (.bipush 59, 2) := by decide +kernel
theorem dX10_writeText_27 : decode cX10_writeText 27 = .ok (.invokevirtual 320, 3) := by decide +kernel
theorem dX10_writeText_30 : decode cX10_writeText 30 = .ok (.iconst 0, 1) := by decide +kernel
theorem dX10_writeText_31 : decode cX10_writeText 31 = .ok (.istore_n 1, 1) := by decide +kernel
theorem dX10_writeText_32 : decode cX10_writeText 32 = .ok (.iload_n 1, 1) := by decide +kernel
theorem dX10_writeText_33 : decode cX10_writeText 33 = .ok (.aload_n 0, 1) := by decide +kernel
theorem dX10_writeText_34 : decode cX10_writeText 34 = .ok (.getfield 35, 3) := by decide +kernel
theorem dX10_writeText_37 : decode cX10_writeText 37 = .ok (.if_icmp .ge 65, 3) := by decide +kernel
theorem dX10_writeText_40 : decode cX10_writeText 40 = .ok (.iload_n 1, 1) := by decide +kernel
theorem dX10_writeText_41 : decode cX10_writeText 41 = .ok (.iconst 1, 1) := by decide +kernel
theorem dX10_writeText_42 : decode cX10_writeText 42 = .ok (.iadd, 1) := by decide +kernel
theorem dX10_writeText_43 : decode cX10_writeText 43 = .ok (.istore_n 2, 1) := by decide +kernel
theorem dX10_writeText_44 : decode cX10_writeText 44 = .ok (.iload_n 2, 1) := by decide +kernel
theorem dX10_writeText_45 : decode cX10_writeText 45 = .ok (.aload_n 0, 1) := by decide +kernel
theorem dX10_writeText_46 : decode cX10_writeText 46 = .ok (.getfield 35, 3) := by decide +kernel
theorem dX10_writeText_49 : decode cX10_writeText 49 = .ok (.if_icmp .ge 47, 3) := by decide +kernel
theorem dX10_writeText_52 : decode cX10_writeText 52 = .ok (.aload_n 0, 1) := by decide +kernel
theorem dX10_writeText_53 : decode cX10_writeText 53 = .ok (.getfield 19, 3) := by decide +kernel
theorem dX10_writeText_56 : decode cX10_writeText 56 = .ok (.iload_n 1, 1) := by decide +kernel
theorem dX10_writeText_57 : decode cX10_writeText 57 = .ok (.iaload, 1) := by decide +kernel
theorem dX10_writeText_58 : decode cX10_writeText 58 = .ok (.iload_n 2, 1) := by decide +kernel
theorem dX10_writeText_59 : decode cX10_writeText 59 = .ok (.invokestatic 70, 3) := by decide +kernel
theorem dX10_writeText_62 : decode cX10_writeText 62 = .ok (.ifCond .ne 6, 3) := by decide +kernel
theorem dX10_writeText_65 : decode cX10_writeText 65 = .ok (.goto 25, 3) := by decide +kernel
theorem dX10_writeText_68 : decode cX10_writeText 68 = .ok (.aload_n 0, 1) := by decide +kernel
theorem dX10_writeText_69 : decode cX10_writeText 69 = .ok (.ldc 228, 2) := by decide +kernel
theorem dX10_writeText_71 : decode cX10_writeText 71 = .ok (.invokevirtual 323, 3) := by decide +kernel
theorem dX10_writeText_74 : decode cX10_writeText 74 = .ok (.aload_n 0, 1) := by decide +kernel
theorem dX10_writeText_75 : decode cX10_writeText 75 = .ok (.iload_n 1, 1) := by decide +kernel
theorem dX10_writeText_76 : decode cX10_writeText 76 = .ok (.invokevirtual 327, 3) := by decide +kernel
theorem dX10_writeText_79 : decode cX10_writeText 79 = .ok (.aload_n 0, 1) := by decide +kernel
theorem dX10_writeText_80 : decode cX10_writeText 80 = .ok (.iload_n 2, 1) := by decide +kernel
theorem dX10_writeText_81 : decode cX10_writeText 81 = .ok (.invokevirtual 327, 3) := by decide +kernel
theorem dX10_writeText_84 : decode cX10_writeText 84 = .ok (.aload_n 0, 1) := by decide +kernel
theorem dX10_writeText_85 : decode cX10_writeText 85 = .ok (.bipush 59, 2) := by decide +kernel
theorem dX10_writeText_87 : decode cX10_writeText 87 = .ok (.invokevirtual 320, 3) := by decide +kernel
theorem dX10_writeText_90 : decode cX10_writeText 90 = .ok (.iinc 2 1, 3) := by decide +kernel
theorem dX10_writeText_93 : decode cX10_writeText 93 = .ok (.goto (-49), 3) := by decide +kernel
theorem dX10_writeText_96 : decode cX10_writeText 96 = .ok (.iinc 1 1, 3) := by decide +kernel
theorem dX10_writeText_99 : decode cX10_writeText 99 = .ok (.goto (-67), 3) := by decide +kernel
theorem dX10_writeText_102 : decode cX10_writeText 102 = .ok (.iconst 0, 1) := by decide +kernel
theorem dX10_writeText_103 : decode cX10_writeText 103 = .ok (.istore_n 1, 1) := by decide +kernel
theorem dX10_writeText_104 : decode cX10_writeText 104 = .ok (.iload_n 1, 1) := by decide +kernel
theorem dX10_writeText_105 : decode cX10_writeText 105 = .ok (.aload_n 0, 1) := by decide +kernel
theorem dX10_writeText_106 : decode cX10_writeText 106 = .ok (.getfield 35, 3) := by decide +kernel
theorem dX10_writeText_109 : decode cX10_writeText 109 = .ok (.if_icmp .ge 55, 3) := by decide +kernel
theorem dX10_writeText_112 : decode cX10_writeText 112 = .ok (.aload_n 0, 1) := by decide +kernel
theorem dX10_writeText_113 : decode cX10_writeText 113 = .ok (.getfield 19, 3) := by decide +kernel
theorem dX10_writeText_116 : decode cX10_writeText 116 = .ok (.bipush 10, 2) := by decide +kernel
theorem dX10_writeText_118 : decode cX10_writeText 118 = .ok (.iload_n 1, 1) := by decide +kernel
theorem dX10_writeText_119 : decode cX10_writeText 119 = .ok (.iadd, 1) := by decide +kernel
theorem dX10_writeText_120 : decode cX10_writeText 120 = .ok (.iaload, 1) := by decide +kernel
theorem dX10_writeText_121 : decode cX10_writeText 121 = .ok (.iconst 1, 1) := by decide +kernel
theorem dX10_writeText_122 : decode cX10_writeText 122 = .ok (.if_icmp .ne 6, 3) := by decide +kernel
theorem dX10_writeText_125 : decode cX10_writeText 125 = .ok (.goto 33, 3) := by decide +kernel
theorem dX10_writeText_128 : decode cX10_writeText 128 = .ok (.aload_n 0, 1) := by decide +kernel
theorem dX10_writeText_129 : decode cX10_writeText 129 = .ok (.ldc 246, 2) := by decide +kernel
theorem dX10_writeText_131 : decode cX10_writeText 131 = .ok (.invokevirtual 323, 3) := by decide +kernel
theorem dX10_writeText_134 : decode cX10_writeText 134 = .ok (.aload_n 0, 1) := by decide +kernel
theorem dX10_writeText_135 : decode cX10_writeText 135 = .ok (.iload_n 1, 1) := by decide +kernel
theorem dX10_writeText_136 : decode cX10_writeText 136 = .ok (.invokevirtual 327, 3) := by decide +kernel
theorem dX10_writeText_139 : decode cX10_writeText 139 = .ok (.aload_n 0, 1) := by decide +kernel
theorem dX10_writeText_140 : decode cX10_writeText 140 = .ok (.aload_n 0, 1) := by decide +kernel
theorem dX10_writeText_141 : decode cX10_writeText 141 = .ok (.getfield 19, 3) := by decide +kernel
theorem dX10_writeText_144 : decode cX10_writeText 144 = .ok (.bipush 10, 2) := by decide +kernel
theorem dX10_writeText_146 : decode cX10_writeText 146 = .ok (.iload_n 1, 1) := by decide +kernel
theorem dX10_writeText_147 : decode cX10_writeText 147 = .ok (.iadd, 1) := by decide +kernel
theorem dX10_writeText_148 : decode cX10_writeText 148 = .ok (.iaload, 1) := by decide +kernel
theorem dX10_writeText_149 : decode cX10_writeText 149 = .ok (.invokevirtual 327, 3) := by decide +kernel
theorem dX10_writeText_152 : decode cX10_writeText 152 = .ok (.aload_n 0, 1) := by decide +kernel
theorem dX10_writeText_153 : decode cX10_writeText 153 = .ok (.bipush 59, 2) := by decide +kernel
theorem dX10_writeText_155 : decode cX10_writeText 155 = .ok (.invokevirtual 320, 3) := by decide +kernel
theorem dX10_writeText_158 : decode cX10_writeText 158 = .ok (.iinc 1 1, 3) := by decide +kernel
theorem dX10_writeText_161 : decode cX10_writeText 161 = .ok (.goto (-57), 3) := by decide +kernel
theorem dX10_writeText_164 : decode cX10_writeText 164 = .ok (.aload_n 0, 1) := by decide +kernel
theorem dX10_writeText_165 : decode cX10_writeText 165 = .ok (.getfield 317, 3) := by decide +kernel
theorem dX10_writeText_168 : decode cX10_writeText 168 = .ok (.ireturn, 1) := by decide +kernel
theorem dX10_outputByte_0 : decode cX10_outputByte 0 = .ok (.aload_n 0, 1) := by decide +kernel
theorem dX10_outputByte_1 : decode cX10_outputByte 1 = .ok (.iload_n 1, 1) := by decide +kernel
theorem dX10_outputByte_2 : decode cX10_outputByte 2 = .ok (.iconst 0, 1) := by decide +kernel
theorem dX10_outputByte_3 : decode cX10_outputByte 3 = .ok (.aload_n 0, 1) := by decide +kernel
theorem dX10_outputByte_4 : decode cX10_outputByte 4 = .ok (.getfield 317, 3) := by decide +kernel
theorem dX10_outputByte_7 : decode cX10_outputByte 7 = .ok (.iconst 1, 1) := by decide +kernel
theorem dX10_outputByte_8 : decode cX10_outputByte 8 = .ok (.isub, 1) := by decide +kernel
theorem dX10_outputByte_9 : decode cX10_outputByte 9 = .ok (.invokestatic 153, 3) := by decide +kernel
theorem dX10_outputByte_12 : decode cX10_outputByte 12 = .ok (.ifCond .ne 7, 3) := by decide +kernel
theorem dX10_outputByte_15 : decode cX10_outputByte 15 = .ok (.iconst 1, 1) := by decide +kernel
theorem dX10_outputByte_16 : decode cX10_outputByte 16 = .ok (.goto 4, 3) := by decide +kernel
theorem dX10_outputByte_19 : decode cX10_outputByte 19 = .ok (.iconst 0, 1) := by decide +kernel
theorem dX10_outputByte_20 : decode cX10_outputByte 20 = .ok (.iconst 0, 1) := by decide +kernel
theorem dX10_outputByte_21 : decode cX10_outputByte 21 = .ok (.invokevirtual 286, 3) := by decide +kernel
theorem dX10_outputByte_24 : decode cX10_outputByte 24 = .ok (.ifCond .eq 7, 3) := by decide +kernel
theorem dX10_outputByte_27 : decode cX10_outputByte 27 = .ok (.iconst 0, 1) := by decide +kernel
theorem dX10_outputByte_28 : decode cX10_outputByte 28 = .ok (.goto 9, 3) := by decide +kernel
theorem dX10_outputByte_31 : decode cX10_outputByte 31 = .ok (.aload_n 0, 1) := by decide +kernel
theorem dX10_outputByte_32 : decode cX10_outputByte 32 = .ok (.getfield 47, 3) := by decide +kernel
theorem dX10_outputByte_35 : decode cX10_outputByte 35 = .ok (.iload_n 1, 1) := by decide +kernel
theorem dX10_outputByte_36 : decode cX10_outputByte 36 = .ok (.iaload, 1) := by decide +kernel
theorem dX10_outputByte_37 : decode cX10_outputByte 37 = .ok (.ireturn, 1) := by decide +kernel
theorem dX10_symmetries_0 : decode cX10_symmetries 0 = .ok (.aload_n 0, 1) := by decide +kernel
theorem dX10_symmetries_1 : decode cX10_symmetries 1 = .ok (.aload_n 0, 1) := by decide +kernel
theorem dX10_symmetries_2 : decode cX10_symmetries 2 = .ok (.iload_n 1, 1) := by decide +kernel
theorem dX10_symmetries_3 : decode cX10_symmetries 3 = .ok (.invokevirtual 295, 3) := by decide +kernel
theorem dX10_symmetries_6 : decode cX10_symmetries 6 = .ok (.ifCond .ne 7, 3) := by decide +kernel
theorem dX10_symmetries_9 : decode cX10_symmetries 9 = .ok (.iconst 1, 1) := by decide +kernel
theorem dX10_symmetries_10 : decode cX10_symmetries 10 = .ok (.goto 4, 3) := by decide +kernel
theorem dX10_symmetries_13 : decode cX10_symmetries 13 = .ok (.iconst 0, 1) := by decide +kernel
theorem dX10_symmetries_14 : decode cX10_symmetries 14 = .ok (.iconst 0, 1) := by decide +kernel
theorem dX10_symmetries_15 : decode cX10_symmetries 15 = .ok (.invokevirtual 286, 3) := by decide +kernel
theorem dX10_symmetries_18 : decode cX10_symmetries 18 = .ok (.ifCond .eq 7, 3) := by decide +kernel
theorem dX10_symmetries_21 : decode cX10_symmetries 21 = .ok (.iconst 0, 1) := by decide +kernel
theorem dX10_symmetries_22 : decode cX10_symmetries 22 = .ok (.goto 12, 3) := by decide +kernel
theorem dX10_symmetries_25 : decode cX10_symmetries 25 = .ok (.aload_n 0, 1) := by decide +kernel
theorem dX10_symmetries_26 : decode cX10_symmetries 26 = .ok (.aload_n 0, 1) := by decide +kernel
theorem dX10_symmetries_27 : decode cX10_symmetries 27 = .ok (.iload_n 1, 1) := by decide +kernel
theorem dX10_symmetries_28 : decode cX10_symmetries 28 = .ok (.invokevirtual 133, 3) := by decide +kernel
theorem dX10_symmetries_31 : decode cX10_symmetries 31 = .ok (.invokevirtual 330, 3) := by decide +kernel
theorem dX10_symmetries_34 : decode cX10_symmetries 34 = .ok (.ireturn, 1) := by decide +kernel
theorem dX10_labellings_0 : decode cX10_labellings 0 = .ok (.aload_n 0, 1) := by decide +kernel
theorem dX10_labellings_1 : decode cX10_labellings 1 = .ok (.aload_n 0, 1) := by decide +kernel
theorem dX10_labellings_2 : decode cX10_labellings 2 = .ok (.iload_n 1, 1) := by decide +kernel
theorem dX10_labellings_3 : decode cX10_labellings 3 = .ok (.invokevirtual 295, 3) := by decide +kernel
theorem dX10_labellings_6 : decode cX10_labellings 6 = .ok (.ifCond .ne 7, 3) := by decide +kernel
theorem dX10_labellings_9 : decode cX10_labellings 9 = .ok (.iconst 1, 1) := by decide +kernel
theorem dX10_labellings_10 : decode cX10_labellings 10 = .ok (.goto 4, 3) := by decide +kernel
theorem dX10_labellings_13 : decode cX10_labellings 13 = .ok (.iconst 0, 1) := by decide +kernel
theorem dX10_labellings_14 : decode cX10_labellings 14 = .ok (.iconst 0, 1) := by decide +kernel
theorem dX10_labellings_15 : decode cX10_labellings 15 = .ok (.invokevirtual 286, 3) := by decide +kernel
theorem dX10_labellings_18 : decode cX10_labellings 18 = .ok (.ifCond .eq 5, 3) := by decide +kernel
theorem dX10_labellings_21 : decode cX10_labellings 21 = .ok (.iconst 0, 1) := by decide +kernel
theorem dX10_labellings_22 : decode cX10_labellings 22 = .ok (.ireturn, 1) := by decide +kernel
theorem dX10_labellings_23 : decode cX10_labellings 23 = .ok (.aload_n 0, 1) := by decide +kernel
theorem dX10_labellings_24 : decode cX10_labellings 24 = .ok (.iload_n 1, 1) := by decide +kernel
theorem dX10_labellings_25 : decode cX10_labellings 25 = .ok (.invokevirtual 133, 3) := by decide +kernel
theorem dX10_labellings_28 : decode cX10_labellings 28 = .ok (.istore_n 2, 1) := by decide +kernel
theorem dX10_labellings_29 : decode cX10_labellings 29 = .ok (.iload_n 2, 1) := by decide +kernel
theorem dX10_labellings_30 : decode cX10_labellings 30 = .ok (.invokestatic 111, 3) := by decide +kernel
theorem dX10_labellings_33 : decode cX10_labellings 33 = .ok (.invokestatic 313, 3) := by decide +kernel
theorem dX10_labellings_36 : decode cX10_labellings 36 = .ok (.aload_n 0, 1) := by decide +kernel
theorem dX10_labellings_37 : decode cX10_labellings 37 = .ok (.iload_n 2, 1) := by decide +kernel
theorem dX10_labellings_38 : decode cX10_labellings 38 = .ok (.invokevirtual 330, 3) := by decide +kernel
theorem dX10_labellings_41 : decode cX10_labellings 41 = .ok (.i2l, 1) := by decide +kernel
theorem dX10_labellings_42 : decode cX10_labellings 42 = .ok (.ldiv, 1) := by decide +kernel
theorem dX10_labellings_43 : decode cX10_labellings 43 = .ok (.l2i, 1) := by decide +kernel
theorem dX10_labellings_44 : decode cX10_labellings 44 = .ok (.ireturn, 1) := by decide +kernel
theorem dX10_partings_0 : decode cX10_partings 0 = .ok (.iload_n 0, 1) := by decide +kernel
theorem dX10_partings_1 : decode cX10_partings 1 = .ok (.ifCond .eq 7, 3) := by decide +kernel
theorem dX10_partings_4 : decode cX10_partings 4 = .ok (.iload_n 1, 1) := by decide +kernel
theorem dX10_partings_5 : decode cX10_partings 5 = .ok (.ifCond .ne 14, 3) := by decide +kernel
theorem dX10_partings_8 : decode cX10_partings 8 = .ok (.iload_n 0, 1) := by decide +kernel
theorem dX10_partings_9 : decode cX10_partings 9 = .ok (.iload_n 1, 1) := by decide +kernel
theorem dX10_partings_10 : decode cX10_partings 10 = .ok (.if_icmp .ne 7, 3) := by decide +kernel
theorem dX10_partings_13 : decode cX10_partings 13 = .ok (.lconst 1, 1) := by decide +kernel
theorem dX10_partings_14 : decode cX10_partings 14 = .ok (.goto 4, 3) := by decide +kernel
theorem dX10_partings_17 : decode cX10_partings 17 = .ok (.lconst 0, 1) := by decide +kernel
theorem dX10_partings_18 : decode cX10_partings 18 = .ok (.lreturn, 1) := by decide +kernel
theorem dX10_partings_19 : decode cX10_partings 19 = .ok (.iload_n 0, 1) := by decide +kernel
theorem dX10_partings_20 : decode cX10_partings 20 = .ok (.iconst 1, 1) := by decide +kernel
theorem dX10_partings_21 : decode cX10_partings 21 = .ok (.isub, 1) := by decide +kernel
theorem dX10_partings_22 : decode cX10_partings 22 = .ok (.iload_n 1, 1) := by decide +kernel
theorem dX10_partings_23 : decode cX10_partings 23 = .ok (.iconst 1, 1) := by decide +kernel
theorem dX10_partings_24 : decode cX10_partings 24 = .ok (.isub, 1) := by decide +kernel
theorem dX10_partings_25 : decode cX10_partings 25 = .ok (.invokestatic 333, 3) := by decide +kernel
theorem dX10_partings_28 : decode cX10_partings 28 = .ok (.iload_n 1, 1) := by decide +kernel
theorem dX10_partings_29 : decode cX10_partings 29 = .ok (.i2l, 1) := by decide +kernel
theorem dX10_partings_30 : decode cX10_partings 30 = .ok (.iload_n 0, 1) := by decide +kernel
theorem dX10_partings_31 : decode cX10_partings 31 = .ok (.iconst 1, 1) := by decide +kernel
theorem dX10_partings_32 : decode cX10_partings 32 = .ok (.isub, 1) := by decide +kernel
theorem dX10_partings_33 : decode cX10_partings 33 = .ok (.iload_n 1, 1) := by decide +kernel
theorem dX10_partings_34 : decode cX10_partings 34 = .ok (.invokestatic 333, 3) := by decide +kernel
theorem dX10_partings_37 : decode cX10_partings 37 = .ok (.lmul, 1) := by decide +kernel
theorem dX10_partings_38 : decode cX10_partings 38 = .ok (.ladd, 1) := by decide +kernel
theorem dX10_partings_39 : decode cX10_partings 39 = .ok (.lreturn, 1) := by decide +kernel
theorem dX10_withLeaves_0 : decode cX10_withLeaves 0 = .ok (.aload_n 0, 1) := by decide +kernel
theorem dX10_withLeaves_1 : decode cX10_withLeaves 1 = .ok (.iload_n 1, 1) := by decide +kernel
theorem dX10_withLeaves_2 : decode cX10_withLeaves 2 = .ok (.iconst 1, 1) := by decide +kernel
theorem dX10_withLeaves_3 : decode cX10_withLeaves 3 = .ok (.bipush 10, 2) := by decide +kernel
theorem dX10_withLeaves_5 : decode cX10_withLeaves 5 = .ok (.invokestatic 153, 3) := by decide +kernel
theorem dX10_withLeaves_8 : decode cX10_withLeaves 8 = .ok (.ifCond .eq 13, 3) := by decide +kernel
theorem dX10_withLeaves_11 : decode cX10_withLeaves 11 = .ok (.iload_n 2, 1) := by decide +kernel
theorem dX10_withLeaves_12 : decode cX10_withLeaves 12 = .ok (.iconst 0, 1) := by decide +kernel
theorem dX10_withLeaves_13 : decode cX10_withLeaves 13 = .ok (.bipush 10, 2) := by decide +kernel
theorem dX10_withLeaves_15 : decode cX10_withLeaves 15 = .ok (.invokestatic 153, 3) := by decide +kernel
theorem dX10_withLeaves_18 : decode cX10_withLeaves 18 = .ok (.ifCond .ne 7, 3) := by decide +kernel
theorem dX10_withLeaves_21 : decode cX10_withLeaves 21 = .ok (.iconst 1, 1) := by decide +kernel
theorem dX10_withLeaves_22 : decode cX10_withLeaves 22 = .ok (.goto 4, 3) := by decide +kernel
theorem dX10_withLeaves_25 : decode cX10_withLeaves 25 = .ok (.iconst 0, 1) := by decide +kernel
theorem dX10_withLeaves_26 : decode cX10_withLeaves 26 = .ok (.iconst 0, 1) := by decide +kernel
theorem dX10_withLeaves_27 : decode cX10_withLeaves 27 = .ok (.invokevirtual 286, 3) := by decide +kernel
theorem dX10_withLeaves_30 : decode cX10_withLeaves 30 = .ok (.ifCond .eq 5, 3) := by decide +kernel
theorem dX10_withLeaves_33 : decode cX10_withLeaves 33 = .ok (.iconst 0, 1) := by decide +kernel
theorem dX10_withLeaves_34 : decode cX10_withLeaves 34 = .ok (.ireturn, 1) := by decide +kernel
theorem dX10_withLeaves_35 : decode cX10_withLeaves 35 = .ok (.iload_n 1, 1) := by decide +kernel
theorem dX10_withLeaves_36 : decode cX10_withLeaves 36 = .ok (.iconst 3, 1) := by decide +kernel
theorem dX10_withLeaves_37 : decode cX10_withLeaves 37 = .ok (.if_icmp .ge 23, 3) := by decide +kernel
theorem dX10_withLeaves_40 : decode cX10_withLeaves 40 = .ok (.iload_n 2, 1) := by decide +kernel
theorem dX10_withLeaves_41 : decode cX10_withLeaves 41 = .ok (.iload_n 1, 1) := by decide +kernel
theorem dX10_withLeaves_42 : decode cX10_withLeaves 42 = .ok (.iconst 1, 1) := by decide +kernel
theorem dX10_withLeaves_43 : decode cX10_withLeaves 43 = .ok (.if_icmp .ne 7, 3) := by decide +kernel
theorem dX10_withLeaves_46 : decode cX10_withLeaves 46 = .ok (.iconst 0, 1) := by decide +kernel
theorem dX10_withLeaves_47 : decode cX10_withLeaves 47 = .ok (.goto 4, 3) := by decide +kernel
theorem dX10_withLeaves_50 : decode cX10_withLeaves 50 = .ok (.iconst 2, 1) := by decide +kernel
theorem dX10_withLeaves_51 : decode cX10_withLeaves 51 = .ok (.if_icmp .ne 7, 3) := by decide +kernel
theorem dX10_withLeaves_54 : decode cX10_withLeaves 54 = .ok (.iconst 1, 1) := by decide +kernel
theorem dX10_withLeaves_55 : decode cX10_withLeaves 55 = .ok (.goto 4, 3) := by decide +kernel
theorem dX10_withLeaves_58 : decode cX10_withLeaves 58 = .ok (.iconst 0, 1) := by decide +kernel
theorem dX10_withLeaves_59 : decode cX10_withLeaves 59 = .ok (.ireturn, 1) := by decide +kernel
theorem dX10_withLeaves_60 : decode cX10_withLeaves 60 = .ok (.iload_n 2, 1) := by decide +kernel
theorem dX10_withLeaves_61 : decode cX10_withLeaves 61 = .ok (.iconst 2, 1) := by decide +kernel
theorem dX10_withLeaves_62 : decode cX10_withLeaves 62 = .ok (.if_icmp .lt 8, 3) := by decide +kernel
theorem dX10_withLeaves_65 : decode cX10_withLeaves 65 = .ok (.iload_n 2, 1) := by decide +kernel
theorem dX10_withLeaves_66 : decode cX10_withLeaves 66 = .ok (.iload_n 1, 1) := by decide +kernel
theorem dX10_withLeaves_67 : decode cX10_withLeaves 67 = .ok (.if_icmp .lt 7, 3) := by decide +kernel
theorem dX10_withLeaves_70 : decode cX10_withLeaves 70 = .ok (.iconst 0, 1) := by decide +kernel
theorem dX10_withLeaves_71 : decode cX10_withLeaves 71 = .ok (.goto 23, 3) := by decide +kernel
theorem dX10_withLeaves_74 : decode cX10_withLeaves 74 = .ok (.iload_n 1, 1) := by decide +kernel
theorem dX10_withLeaves_75 : decode cX10_withLeaves 75 = .ok (.invokestatic 313, 3) := by decide +kernel
theorem dX10_withLeaves_78 : decode cX10_withLeaves 78 = .ok (.iload_n 2, 1) := by decide +kernel
theorem dX10_withLeaves_79 : decode cX10_withLeaves 79 = .ok (.invokestatic 313, 3) := by decide +kernel
theorem dX10_withLeaves_82 : decode cX10_withLeaves 82 = .ok (.ldiv, 1) := by decide +kernel
theorem dX10_withLeaves_83 : decode cX10_withLeaves 83 = .ok (.iload_n 1, 1) := by decide +kernel
theorem dX10_withLeaves_84 : decode cX10_withLeaves 84 = .ok (.iconst 2, 1) := by decide +kernel
theorem dX10_withLeaves_85 : decode cX10_withLeaves 85 = .ok (.isub, 1) := by decide +kernel
theorem dX10_withLeaves_86 : decode cX10_withLeaves 86 = .ok (.iload_n 1, 1) := by decide +kernel
theorem dX10_withLeaves_87 : decode cX10_withLeaves 87 = .ok (.iload_n 2, 1) := by decide +kernel
theorem dX10_withLeaves_88 : decode cX10_withLeaves 88 = .ok (.isub, 1) := by decide +kernel
theorem dX10_withLeaves_89 : decode cX10_withLeaves 89 = .ok (.invokestatic 333, 3) := by decide +kernel
theorem dX10_withLeaves_92 : decode cX10_withLeaves 92 = .ok (.lmul, 1) := by decide +kernel
theorem dX10_withLeaves_93 : decode cX10_withLeaves 93 = .ok (.l2i, 1) := by decide +kernel
theorem dX10_withLeaves_94 : decode cX10_withLeaves 94 = .ok (.ireturn, 1) := by decide +kernel
theorem dX10_laysRooted_0 : decode cX10_laysRooted 0 = .ok (.aload_n 0, 1) := by decide +kernel
theorem dX10_laysRooted_1 : decode cX10_laysRooted 1 = .ok (.getfield 50, 3) := by decide +kernel
theorem dX10_laysRooted_4 : decode cX10_laysRooted 4 = .ok (.iconst 1, 1) := by decide +kernel
theorem dX10_laysRooted_5 : decode cX10_laysRooted 5 = .ok (.iconst 1, 1) := by decide +kernel
theorem dX10_laysRooted_6 : decode cX10_laysRooted 6 = .ok (.iastore, 1) := by decide +kernel
theorem dX10_laysRooted_7 : decode cX10_laysRooted 7 = .ok (.iconst 1, 1) := by decide +kernel
theorem dX10_laysRooted_8 : decode cX10_laysRooted 8 = .ok (.istore_n 1, 1) := by decide +kernel
theorem dX10_laysRooted_9 : decode cX10_laysRooted 9 = .ok (.iload_n 1, 1) := by decide +kernel
theorem dX10_laysRooted_10 : decode cX10_laysRooted 10 = .ok (.bipush 10, 2) := by decide +kernel
theorem dX10_laysRooted_12 : decode cX10_laysRooted 12 = .ok (.if_icmp .ge 95, 3) := by decide +kernel
theorem dX10_laysRooted_15 : decode cX10_laysRooted 15 = .ok (.iconst 0, 1) := by decide +kernel
theorem dX10_laysRooted_16 : decode cX10_laysRooted 16 = .ok (.istore_n 2, 1) := by decide +kernel
theorem dX10_laysRooted_17 : decode cX10_laysRooted 17 = .ok (.iconst 1, 1) := by decide +kernel
theorem dX10_laysRooted_18 : decode cX10_laysRooted 18 = .ok (.istore_n 3, 1) := by decide +kernel
theorem dX10_laysRooted_19 : decode cX10_laysRooted 19 = .ok (.iload_n 3, 1) := by decide +kernel
theorem dX10_laysRooted_20 : decode cX10_laysRooted 20 = .ok (.iload_n 1, 1) := by decide +kernel
theorem dX10_laysRooted_21 : decode cX10_laysRooted 21 = .ok (.if_icmp .gt 69, 3) := by decide +kernel
theorem dX10_laysRooted_24 : decode cX10_laysRooted 24 = .ok (.iconst 0, 1) := by decide +kernel
theorem dX10_laysRooted_25 : decode cX10_laysRooted 25 = .ok (.istore 4, 2) := by decide +kernel
theorem dX10_laysRooted_27 : decode cX10_laysRooted 27 = .ok (.iconst 1, 1) := by decide +kernel
theorem dX10_laysRooted_28 : decode cX10_laysRooted 28 = .ok (.istore 5, 2) := by decide +kernel
theorem dX10_laysRooted_30 : decode cX10_laysRooted 30 = .ok (.iload 5, 2) := by decide +kernel
theorem dX10_laysRooted_32 : decode cX10_laysRooted 32 = .ok (.iload_n 3, 1) := by decide +kernel
theorem dX10_laysRooted_33 : decode cX10_laysRooted 33 = .ok (.if_icmp .gt 35, 3) := by decide +kernel
theorem dX10_laysRooted_36 : decode cX10_laysRooted 36 = .ok (.iload 4, 2) := by decide +kernel
theorem dX10_laysRooted_38 : decode cX10_laysRooted 38 = .ok (.iload_n 3, 1) := by decide +kernel
theorem dX10_laysRooted_39 : decode cX10_laysRooted 39 = .ok (.iload 5, 2) := by decide +kernel
theorem dX10_laysRooted_41 : decode cX10_laysRooted 41 = .ok (.irem, 1) := by decide +kernel
theorem dX10_laysRooted_42 : decode cX10_laysRooted 42 = .ok (.ifCond .ne 16, 3) := by decide +kernel
theorem dX10_laysRooted_45 : decode cX10_laysRooted 45 = .ok (.iload 5, 2) := by decide +kernel
theorem dX10_laysRooted_47 : decode cX10_laysRooted 47 = .ok (.aload_n 0, 1) := by decide +kernel
theorem dX10_laysRooted_48 : decode cX10_laysRooted 48 = .ok (.getfield 50, 3) := by decide +kernel
theorem dX10_laysRooted_51 : decode cX10_laysRooted 51 = .ok (.iload 5, 2) := by decide +kernel
theorem dX10_laysRooted_53 : decode cX10_laysRooted 53 = .ok (.iaload, 1) := by decide +kernel
theorem dX10_laysRooted_54 : decode cX10_laysRooted 54 = .ok (.imul, 1) := by decide +kernel
theorem dX10_laysRooted_55 : decode cX10_laysRooted 55 = .ok (.goto 4, 3) := by decide +kernel
theorem dX10_laysRooted_58 : decode cX10_laysRooted 58 = .ok (.iconst 0, 1) := by decide +kernel
theorem dX10_laysRooted_59 : decode cX10_laysRooted 59 = .ok (.iadd, 1) := by decide +kernel
theorem dX10_laysRooted_60 : decode cX10_laysRooted 60 = .ok (.istore 4, 2) := by decide +kernel
theorem dX10_laysRooted_62 : decode cX10_laysRooted 62 = .ok (.iinc 5 1, 3) := by decide +kernel
theorem dX10_laysRooted_65 : decode cX10_laysRooted 65 = .ok (.goto (-35), 3) := by decide +kernel
theorem dX10_laysRooted_68 : decode cX10_laysRooted 68 = .ok (.iload_n 2, 1) := by decide +kernel
theorem dX10_laysRooted_69 : decode cX10_laysRooted 69 = .ok (.iload 4, 2) := by decide +kernel
theorem dX10_laysRooted_71 : decode cX10_laysRooted 71 = .ok (.aload_n 0, 1) := by decide +kernel
theorem dX10_laysRooted_72 : decode cX10_laysRooted 72 = .ok (.getfield 50, 3) := by decide +kernel
theorem dX10_laysRooted_75 : decode cX10_laysRooted 75 = .ok (.iload_n 1, 1) := by decide +kernel
theorem dX10_laysRooted_76 : decode cX10_laysRooted 76 = .ok (.iload_n 3, 1) := by decide +kernel
theorem dX10_laysRooted_77 : decode cX10_laysRooted 77 = .ok (.isub, 1) := by decide +kernel
theorem dX10_laysRooted_78 : decode cX10_laysRooted 78 = .ok (.iconst 1, 1) := by decide +kernel
theorem dX10_laysRooted_79 : decode cX10_laysRooted 79 = .ok (.iadd, 1) := by decide +kernel
theorem dX10_laysRooted_80 : decode cX10_laysRooted 80 = .ok (.iaload, 1) := by decide +kernel
theorem dX10_laysRooted_81 : decode cX10_laysRooted 81 = .ok (.imul, 1) := by decide +kernel
theorem dX10_laysRooted_82 : decode cX10_laysRooted 82 = .ok (.iadd, 1) := by decide +kernel
theorem dX10_laysRooted_83 : decode cX10_laysRooted 83 = .ok (.istore_n 2, 1) := by decide +kernel
theorem dX10_laysRooted_84 : decode cX10_laysRooted 84 = .ok (.iinc 3 1, 3) := by decide +kernel
theorem dX10_laysRooted_87 : decode cX10_laysRooted 87 = .ok (.goto (-68), 3) := by decide +kernel
theorem dX10_laysRooted_90 : decode cX10_laysRooted 90 = .ok (.aload_n 0, 1) := by decide +kernel
theorem dX10_laysRooted_91 : decode cX10_laysRooted 91 = .ok (.getfield 50, 3) := by decide +kernel
theorem dX10_laysRooted_94 : decode cX10_laysRooted 94 = .ok (.iload_n 1, 1) := by decide +kernel
theorem dX10_laysRooted_95 : decode cX10_laysRooted 95 = .ok (.iconst 1, 1) := by decide +kernel
theorem dX10_laysRooted_96 : decode cX10_laysRooted 96 = .ok (.iadd, 1) := by decide +kernel
theorem dX10_laysRooted_97 : decode cX10_laysRooted 97 = .ok (.iload_n 2, 1) := by decide +kernel
theorem dX10_laysRooted_98 : decode cX10_laysRooted 98 = .ok (.iload_n 1, 1) := by decide +kernel
theorem dX10_laysRooted_99 : decode cX10_laysRooted 99 = .ok (.idiv, 1) := by decide +kernel
theorem dX10_laysRooted_100 : decode cX10_laysRooted 100 = .ok (.iastore, 1) := by decide +kernel
theorem dX10_laysRooted_101 : decode cX10_laysRooted 101 = .ok (.iinc 1 1, 3) := by decide +kernel
theorem dX10_laysRooted_104 : decode cX10_laysRooted 104 = .ok (.goto (-95), 3) := by decide +kernel
theorem dX10_laysRooted_107 : decode cX10_laysRooted 107 = .ok (.return_, 1) := by decide +kernel
theorem dX10_classes_0 : decode cX10_classes 0 = .ok (.aload_n 0, 1) := by decide +kernel
theorem dX10_classes_1 : decode cX10_classes 1 = .ok (.iload_n 1, 1) := by decide +kernel
theorem dX10_classes_2 : decode cX10_classes 2 = .ok (.iconst 1, 1) := by decide +kernel
theorem dX10_classes_3 : decode cX10_classes 3 = .ok (.bipush 10, 2) := by decide +kernel
theorem dX10_classes_5 : decode cX10_classes 5 = .ok (.invokestatic 153, 3) := by decide +kernel
theorem dX10_classes_8 : decode cX10_classes 8 = .ok (.ifCond .ne 7, 3) := by decide +kernel
theorem dX10_classes_11 : decode cX10_classes 11 = .ok (.iconst 1, 1) := by decide +kernel
theorem dX10_classes_12 : decode cX10_classes 12 = .ok (.goto 4, 3) := by decide +kernel
theorem dX10_classes_15 : decode cX10_classes 15 = .ok (.iconst 0, 1) := by decide +kernel
theorem dX10_classes_16 : decode cX10_classes 16 = .ok (.iconst 0, 1) := by decide +kernel
theorem dX10_classes_17 : decode cX10_classes 17 = .ok (.invokevirtual 286, 3) := by decide +kernel
theorem dX10_classes_20 : decode cX10_classes 20 = .ok (.ifCond .eq 5, 3) := by decide +kernel
theorem dX10_classes_23 : decode cX10_classes 23 = .ok (.iconst 0, 1) := by decide +kernel
theorem dX10_classes_24 : decode cX10_classes 24 = .ok (.ireturn, 1) := by decide +kernel
theorem dX10_classes_25 : decode cX10_classes 25 = .ok (.aload_n 0, 1) := by decide +kernel
theorem dX10_classes_26 : decode cX10_classes 26 = .ok (.invokevirtual 337, 3) := by decide +kernel
theorem dX10_classes_29 : decode cX10_classes 29 = .ok (.iload_n 2, 1) := by decide +kernel
theorem dX10_classes_30 : decode cX10_classes 30 = .ok (.ifCond .eq 10, 3) := by decide +kernel
theorem dX10_classes_33 : decode cX10_classes 33 = .ok (.aload_n 0, 1) := by decide +kernel
theorem dX10_classes_34 : decode cX10_classes 34 = .ok (.getfield 50, 3) := by decide +kernel
theorem dX10_classes_37 : decode cX10_classes 37 = .ok (.iload_n 1, 1) := by decide +kernel
theorem dX10_classes_38 : decode cX10_classes 38 = .ok (.iaload, 1) := by decide +kernel
theorem dX10_classes_39 : decode cX10_classes 39 = .ok (.ireturn, 1) := by decide +kernel
theorem dX10_classes_40 : decode cX10_classes 40 = .ok (.iload_n 1, 1) := by decide +kernel
theorem dX10_classes_41 : decode cX10_classes 41 = .ok (.iconst 2, 1) := by decide +kernel
theorem dX10_classes_42 : decode cX10_classes 42 = .ok (.irem, 1) := by decide +kernel
theorem dX10_classes_43 : decode cX10_classes 43 = .ok (.ifCond .ne 15, 3) := by decide +kernel
theorem dX10_classes_46 : decode cX10_classes 46 = .ok (.aload_n 0, 1) := by decide +kernel
theorem dX10_classes_47 : decode cX10_classes 47 = .ok (.getfield 50, 3) := by decide +kernel
theorem dX10_classes_50 : decode cX10_classes 50 = .ok (.iload_n 1, 1) := by decide +kernel
theorem dX10_classes_51 : decode cX10_classes 51 = .ok (.iconst 2, 1) := by decide +kernel
theorem dX10_classes_52 : decode cX10_classes 52 = .ok (.idiv, 1) := by decide +kernel
theorem dX10_classes_53 : decode cX10_classes 53 = .ok (.iaload, 1) := by decide +kernel
theorem dX10_classes_54 : decode cX10_classes 54 = .ok (.ineg, 1) := by decide +kernel
theorem dX10_classes_55 : decode cX10_classes 55 = .ok (.goto 4, 3) := by decide +kernel
theorem dX10_classes_58 : decode cX10_classes 58 = .ok (.iconst 0, 1) := by decide +kernel
theorem dX10_classes_59 : decode cX10_classes 59 = .ok (.istore_n 3, 1) := by decide +kernel
theorem dX10_classes_60 : decode cX10_classes 60 = .ok (.iconst 1, 1) := by decide +kernel
theorem dX10_classes_61 : decode cX10_classes 61 = .ok (.istore 4, 2) := by decide +kernel
theorem dX10_classes_63 : decode cX10_classes 63 = .ok (.iload 4, 2) := by decide +kernel
theorem dX10_classes_65 : decode cX10_classes 65 = .ok (.iload_n 1, 1) := by decide +kernel
theorem dX10_classes_66 : decode cX10_classes 66 = .ok (.if_icmp .ge 29, 3) := by decide +kernel
theorem dX10_classes_69 : decode cX10_classes 69 = .ok (.iload_n 3, 1) := by decide +kernel
theorem dX10_classes_70 : decode cX10_classes 70 = .ok (.aload_n 0, 1) := by decide +kernel
theorem dX10_classes_71 : decode cX10_classes 71 = .ok (.getfield 50, 3) := by decide +kernel
theorem dX10_classes_74 : decode cX10_classes 74 = .ok (.iload 4, 2) := by decide +kernel
theorem dX10_classes_76 : decode cX10_classes 76 = .ok (.iaload, 1) := by decide +kernel
theorem dX10_classes_77 : decode cX10_classes 77 = .ok (.aload_n 0, 1) := by decide +kernel
theorem dX10_classes_78 : decode cX10_classes 78 = .ok (.getfield 50, 3) := by decide +kernel
theorem dX10_classes_81 : decode cX10_classes 81 = .ok (.iload_n 1, 1) := by decide +kernel
theorem dX10_classes_82 : decode cX10_classes 82 = .ok (.iload 4, 2) := by decide +kernel
theorem dX10_classes_84 : decode cX10_classes 84 = .ok (.isub, 1) := by decide +kernel
theorem dX10_classes_85 : decode cX10_classes 85 = .ok (.iaload, 1) := by decide +kernel
theorem dX10_classes_86 : decode cX10_classes 86 = .ok (.imul, 1) := by decide +kernel
theorem dX10_classes_87 : decode cX10_classes 87 = .ok (.iadd, 1) := by decide +kernel
theorem dX10_classes_88 : decode cX10_classes 88 = .ok (.istore_n 3, 1) := by decide +kernel
theorem dX10_classes_89 : decode cX10_classes 89 = .ok (.iinc 4 1, 3) := by decide +kernel
theorem dX10_classes_92 : decode cX10_classes 92 = .ok (.goto (-29), 3) := by decide +kernel
theorem dX10_classes_95 : decode cX10_classes 95 = .ok (.aload_n 0, 1) := by decide +kernel
theorem dX10_classes_96 : decode cX10_classes 96 = .ok (.getfield 50, 3) := by decide +kernel
theorem dX10_classes_99 : decode cX10_classes 99 = .ok (.iload_n 1, 1) := by decide +kernel
theorem dX10_classes_100 : decode cX10_classes 100 = .ok (.iaload, 1) := by decide +kernel
theorem dX10_classes_101 : decode cX10_classes 101 = .ok (.iload_n 3, 1) := by decide +kernel
theorem dX10_classes_102 : decode cX10_classes 102 = .ok (.iconst 2, 1) := by decide +kernel
theorem dX10_classes_103 : decode cX10_classes 103 = .ok (.idiv, 1) := by decide +kernel
theorem dX10_classes_104 : decode cX10_classes 104 = .ok (.isub, 1) := by decide +kernel
theorem dX10_classes_105 : decode cX10_classes 105 = .ok (.ireturn, 1) := by decide +kernel
theorem dX10_survey_0 : decode cX10_survey 0 = .ok (.aload_n 0, 1) := by decide +kernel
theorem dX10_survey_1 : decode cX10_survey 1 = .ok (.iload_n 1, 1) := by decide +kernel
theorem dX10_survey_2 : decode cX10_survey 2 = .ok (.iconst 1, 1) := by decide +kernel
theorem dX10_survey_3 : decode cX10_survey 3 = .ok (.bipush 6, 2) := by decide +kernel
theorem dX10_survey_5 : decode cX10_survey 5 = .ok (.invokestatic 153, 3) := by decide +kernel
theorem dX10_survey_8 : decode cX10_survey 8 = .ok (.ifCond .eq 12, 3) := by decide +kernel
theorem dX10_survey_11 : decode cX10_survey 11 = .ok (.iload_n 2, 1) := by decide +kernel
theorem dX10_survey_12 : decode cX10_survey 12 = .ok (.iconst 0, 1) := by decide +kernel
theorem dX10_survey_13 : decode cX10_survey 13 = .ok (.iconst 2, 1) := by decide +kernel
theorem dX10_survey_14 : decode cX10_survey 14 = .ok (.invokestatic 153, 3) := by decide +kernel
theorem dX10_survey_17 : decode cX10_survey 17 = .ok (.ifCond .ne 7, 3) := by decide +kernel
theorem dX10_survey_20 : decode cX10_survey 20 = .ok (.iconst 1, 1) := by decide +kernel
theorem dX10_survey_21 : decode cX10_survey 21 = .ok (.goto 4, 3) := by decide +kernel
theorem dX10_survey_24 : decode cX10_survey 24 = .ok (.iconst 0, 1) := by decide +kernel
theorem dX10_survey_25 : decode cX10_survey 25 = .ok (.iconst 0, 1) := by decide +kernel
theorem dX10_survey_26 : decode cX10_survey 26 = .ok (.invokevirtual 286, 3) := by decide +kernel
theorem dX10_survey_29 : decode cX10_survey 29 = .ok (.ifCond .eq 5, 3) := by decide +kernel
theorem dX10_survey_32 : decode cX10_survey 32 = .ok (.iconst 0, 1) := by decide +kernel
theorem dX10_survey_33 : decode cX10_survey 33 = .ok (.ireturn, 1) := by decide +kernel
theorem dX10_survey_34 : decode cX10_survey 34 = .ok (.iconst 0, 1) := by decide +kernel
theorem dX10_survey_35 : decode cX10_survey 35 = .ok (.istore_n 3, 1) := by decide +kernel
theorem dX10_survey_36 : decode cX10_survey 36 = .ok (.iconst 0, 1) := by decide +kernel
theorem dX10_survey_37 : decode cX10_survey 37 = .ok (.istore 4, 2) := by decide +kernel
theorem dX10_survey_39 : decode cX10_survey 39 = .ok (.iconst 0, 1) := by decide +kernel
theorem dX10_survey_40 : decode cX10_survey 40 = .ok (.istore 5, 2) := by decide +kernel
theorem dX10_survey_42 : decode cX10_survey 42 = .ok (.aload_n 0, 1) := by decide +kernel
theorem dX10_survey_43 : decode cX10_survey 43 = .ok (.iconst 1, 1) := by decide +kernel
theorem dX10_survey_44 : decode cX10_survey 44 = .ok (.putfield 56, 3) := by decide +kernel
theorem dX10_survey_47 : decode cX10_survey 47 = .ok (.iconst 0, 1) := by decide +kernel
theorem dX10_survey_48 : decode cX10_survey 48 = .ok (.istore 6, 2) := by decide +kernel
theorem dX10_survey_50 : decode cX10_survey 50 = .ok (.iload 6, 2) := by decide +kernel
theorem dX10_survey_52 : decode cX10_survey 52 = .ok (.iload_n 1, 1) := by decide +kernel
theorem dX10_survey_53 : decode cX10_survey 53 = .ok (.invokestatic 340, 3) := by decide +kernel
theorem dX10_survey_56 : decode cX10_survey 56 = .ok (.if_icmp .ge 92, 3) := by decide +kernel
theorem dX10_survey_59 : decode cX10_survey 59 = .ok (.aload_n 0, 1) := by decide +kernel
theorem dX10_survey_60 : decode cX10_survey 60 = .ok (.iload 6, 2) := by decide +kernel
theorem dX10_survey_62 : decode cX10_survey 62 = .ok (.iload_n 1, 1) := by decide +kernel
theorem dX10_survey_63 : decode cX10_survey 63 = .ok (.invokevirtual 343, 3) := by decide +kernel
theorem dX10_survey_66 : decode cX10_survey 66 = .ok (.aload_n 0, 1) := by decide +kernel
theorem dX10_survey_67 : decode cX10_survey 67 = .ok (.iload_n 1, 1) := by decide +kernel
theorem dX10_survey_68 : decode cX10_survey 68 = .ok (.invokevirtual 225, 3) := by decide +kernel
theorem dX10_survey_71 : decode cX10_survey 71 = .ok (.iconst 1, 1) := by decide +kernel
theorem dX10_survey_72 : decode cX10_survey 72 = .ok (.iload_n 1, 1) := by decide +kernel
theorem dX10_survey_73 : decode cX10_survey 73 = .ok (.ishl, 1) := by decide +kernel
theorem dX10_survey_74 : decode cX10_survey 74 = .ok (.iconst 1, 1) := by decide +kernel
theorem dX10_survey_75 : decode cX10_survey 75 = .ok (.isub, 1) := by decide +kernel
theorem dX10_survey_76 : decode cX10_survey 76 = .ok (.istore 7, 2) := by decide +kernel
theorem dX10_survey_78 : decode cX10_survey 78 = .ok (.iload 5, 2) := by decide +kernel
theorem dX10_survey_80 : decode cX10_survey 80 = .ok (.aload_n 0, 1) := by decide +kernel
theorem dX10_survey_81 : decode cX10_survey 81 = .ok (.iload 7, 2) := by decide +kernel
theorem dX10_survey_83 : decode cX10_survey 83 = .ok (.invokevirtual 298, 3) := by decide +kernel
theorem dX10_survey_86 : decode cX10_survey 86 = .ok (.iadd, 1) := by decide +kernel
theorem dX10_survey_87 : decode cX10_survey 87 = .ok (.istore 5, 2) := by decide +kernel
theorem dX10_survey_89 : decode cX10_survey 89 = .ok (.aload_n 0, 1) := by decide +kernel
theorem dX10_survey_90 : decode cX10_survey 90 = .ok (.getfield 53, 3) := by decide +kernel
theorem dX10_survey_93 : decode cX10_survey 93 = .ok (.iload_n 3, 1) := by decide +kernel
theorem dX10_survey_94 : decode cX10_survey 94 = .ok (.aload_n 0, 1) := by decide +kernel
theorem dX10_survey_95 : decode cX10_survey 95 = .ok (.iload 7, 2) := by decide +kernel
theorem dX10_survey_97 : decode cX10_survey 97 = .ok (.invokevirtual 136, 3) := by decide +kernel
theorem dX10_survey_100 : decode cX10_survey 100 = .ok (.iastore, 1) := by decide +kernel
theorem dX10_survey_101 : decode cX10_survey 101 = .ok (.iconst 0, 1) := by decide +kernel
theorem dX10_survey_102 : decode cX10_survey 102 = .ok (.istore 8, 2) := by decide +kernel
theorem dX10_survey_104 : decode cX10_survey 104 = .ok (.aload_n 0, 1) := by decide +kernel
theorem dX10_survey_105 : decode cX10_survey 105 = .ok (.getfield 53, 3) := by decide +kernel
theorem dX10_survey_108 : decode cX10_survey 108 = .ok (.iload 8, 2) := by decide +kernel
theorem dX10_survey_110 : decode cX10_survey 110 = .ok (.iaload, 1) := by decide +kernel
theorem dX10_survey_111 : decode cX10_survey 111 = .ok (.aload_n 0, 1) := by decide +kernel
theorem dX10_survey_112 : decode cX10_survey 112 = .ok (.getfield 53, 3) := by decide +kernel
theorem dX10_survey_115 : decode cX10_survey 115 = .ok (.iload_n 3, 1) := by decide +kernel
theorem dX10_survey_116 : decode cX10_survey 116 = .ok (.iaload, 1) := by decide +kernel
theorem dX10_survey_117 : decode cX10_survey 117 = .ok (.if_icmp .eq 9, 3) := by decide +kernel
theorem dX10_survey_120 : decode cX10_survey 120 = .ok (.iinc 8 1, 3) := by decide +kernel
theorem dX10_survey_123 : decode cX10_survey 123 = .ok (.goto (-19), 3) := by decide +kernel
theorem dX10_survey_126 : decode cX10_survey 126 = .ok (.iload 8, 2) := by decide +kernel
theorem dX10_survey_128 : decode cX10_survey 128 = .ok (.iload_n 3, 1) := by decide +kernel
theorem dX10_survey_129 : decode cX10_survey 129 = .ok (.if_icmp .ge 6, 3) := by decide +kernel
theorem dX10_survey_132 : decode cX10_survey 132 = .ok (.goto 10, 3) := by decide +kernel
theorem dX10_survey_135 : decode cX10_survey 135 = .ok (.iinc 3 1, 3) := by decide +kernel
theorem dX10_survey_138 : decode cX10_survey 138 = .ok (.iload 6, 2) := by decide +kernel
theorem dX10_survey_140 : decode cX10_survey 140 = .ok (.istore 4, 2) := by decide +kernel
theorem dX10_survey_142 : decode cX10_survey 142 = .ok (.iinc 6 1, 3) := by decide +kernel
theorem dX10_survey_145 : decode cX10_survey 145 = .ok (.goto (-95), 3) := by decide +kernel
theorem dX10_survey_148 : decode cX10_survey 148 = .ok (.aload_n 0, 1) := by decide +kernel
theorem dX10_survey_149 : decode cX10_survey 149 = .ok (.iconst 0, 1) := by decide +kernel
theorem dX10_survey_150 : decode cX10_survey 150 = .ok (.putfield 56, 3) := by decide +kernel
theorem dX10_survey_153 : decode cX10_survey 153 = .ok (.iload_n 2, 1) := by decide +kernel
theorem dX10_survey_154 : decode cX10_survey 154 = .ok (.ifCond .ne 7, 3) := by decide +kernel
theorem dX10_survey_157 : decode cX10_survey 157 = .ok (.iload_n 3, 1) := by decide +kernel
theorem dX10_survey_158 : decode cX10_survey 158 = .ok (.goto 15, 3) := by decide +kernel
theorem dX10_survey_161 : decode cX10_survey 161 = .ok (.iload_n 2, 1) := by decide +kernel
theorem dX10_survey_162 : decode cX10_survey 162 = .ok (.iconst 1, 1) := by decide +kernel
theorem dX10_survey_163 : decode cX10_survey 163 = .ok (.if_icmp .ne 8, 3) := by decide +kernel
theorem dX10_survey_166 : decode cX10_survey 166 = .ok (.iload 4, 2) := by decide +kernel
theorem dX10_survey_168 : decode cX10_survey 168 = .ok (.goto 5, 3) := by decide +kernel
theorem dX10_survey_171 : decode cX10_survey 171 = .ok (.iload 5, 2) := by decide +kernel
theorem dX10_survey_173 : decode cX10_survey 173 = .ok (.ireturn, 1) := by decide +kernel
theorem dX10_counts_0 : decode cX10_counts 0 = .ok (.aload_n 0, 1) := by decide +kernel
theorem dX10_counts_1 : decode cX10_counts 1 = .ok (.getfield 32, 3) := by decide +kernel
theorem dX10_counts_4 : decode cX10_counts 4 = .ok (.iload_n 1, 1) := by decide +kernel
theorem dX10_counts_5 : decode cX10_counts 5 = .ok (.dup2, 1) := by decide +kernel
theorem dX10_counts_6 : decode cX10_counts 6 = .ok (.iaload, 1) := by decide +kernel
theorem dX10_counts_7 : decode cX10_counts 7 = .ok (.iconst 1, 1) := by decide +kernel
theorem dX10_counts_8 : decode cX10_counts 8 = .ok (.iadd, 1) := by decide +kernel
theorem dX10_counts_9 : decode cX10_counts 9 = .ok (.iastore, 1) := by decide +kernel
theorem dX10_counts_10 : decode cX10_counts 10 = .ok (.iload_n 2, 1) := by decide +kernel
theorem dX10_counts_11 : decode cX10_counts 11 = .ok (.ireturn, 1) := by decide +kernel
theorem dX10_link_0 : decode cX10_link 0 = .ok (.aload_n 0, 1) := by decide +kernel
theorem dX10_link_1 : decode cX10_link 1 = .ok (.aload_n 0, 1) := by decide +kernel
theorem dX10_link_2 : decode cX10_link 2 = .ok (.iload_n 1, 1) := by decide +kernel
theorem dX10_link_3 : decode cX10_link 3 = .ok (.invokevirtual 283, 3) := by decide +kernel
theorem dX10_link_6 : decode cX10_link 6 = .ok (.ifCond .eq 11, 3) := by decide +kernel
theorem dX10_link_9 : decode cX10_link 9 = .ok (.aload_n 0, 1) := by decide +kernel
theorem dX10_link_10 : decode cX10_link 10 = .ok (.iload_n 2, 1) := by decide +kernel
theorem dX10_link_11 : decode cX10_link 11 = .ok (.invokevirtual 283, 3) := by decide +kernel
theorem dX10_link_14 : decode cX10_link 14 = .ok (.ifCond .ne 7, 3) := by decide +kernel
theorem dX10_link_17 : decode cX10_link 17 = .ok (.iconst 1, 1) := by decide +kernel
theorem dX10_link_18 : decode cX10_link 18 = .ok (.goto 4, 3) := by decide +kernel
theorem dX10_link_21 : decode cX10_link 21 = .ok (.iconst 0, 1) := by decide +kernel
theorem dX10_link_22 : decode cX10_link 22 = .ok (.iconst 0, 1) := by decide +kernel
theorem dX10_link_23 : decode cX10_link 23 = .ok (.invokevirtual 286, 3) := by decide +kernel
theorem dX10_link_26 : decode cX10_link 26 = .ok (.ifCond .eq 5, 3) := by decide +kernel
theorem dX10_link_29 : decode cX10_link 29 = .ok (.iconst 0, 1) := by decide +kernel
theorem dX10_link_30 : decode cX10_link 30 = .ok (.ireturn, 1) := by decide +kernel
theorem dX10_link_31 : decode cX10_link 31 = .ok (.iload_n 1, 1) := by decide +kernel
theorem dX10_link_32 : decode cX10_link 32 = .ok (.iload_n 2, 1) := by decide +kernel
theorem dX10_link_33 : decode cX10_link 33 = .ok (.if_icmp .ne 7, 3) := by decide +kernel
theorem dX10_link_36 : decode cX10_link 36 = .ok (.iconst 1, 1) := by decide +kernel
theorem dX10_link_37 : decode cX10_link 37 = .ok (.goto 37, 3) := by decide +kernel
theorem dX10_link_40 : decode cX10_link 40 = .ok (.aload_n 0, 1) := by decide +kernel
theorem dX10_link_41 : decode cX10_link 41 = .ok (.getfield 19, 3) := by decide +kernel
theorem dX10_link_44 : decode cX10_link 44 = .ok (.iload_n 1, 1) := by decide +kernel
theorem dX10_link_45 : decode cX10_link 45 = .ok (.iaload, 1) := by decide +kernel
theorem dX10_link_46 : decode cX10_link 46 = .ok (.iload_n 2, 1) := by decide +kernel
theorem dX10_link_47 : decode cX10_link 47 = .ok (.invokestatic 70, 3) := by decide +kernel
theorem dX10_link_50 : decode cX10_link 50 = .ok (.ifCond .eq 7, 3) := by decide +kernel
theorem dX10_link_53 : decode cX10_link 53 = .ok (.iconst 2, 1) := by decide +kernel
theorem dX10_link_54 : decode cX10_link 54 = .ok (.goto 20, 3) := by decide +kernel
theorem dX10_link_57 : decode cX10_link 57 = .ok (.aload_n 0, 1) := by decide +kernel
theorem dX10_link_58 : decode cX10_link 58 = .ok (.iload_n 1, 1) := by decide +kernel
theorem dX10_link_59 : decode cX10_link 59 = .ok (.invokevirtual 84, 3) := by decide +kernel
theorem dX10_link_62 : decode cX10_link 62 = .ok (.iload_n 2, 1) := by decide +kernel
theorem dX10_link_63 : decode cX10_link 63 = .ok (.invokestatic 70, 3) := by decide +kernel
theorem dX10_link_66 : decode cX10_link 66 = .ok (.ifCond .eq 7, 3) := by decide +kernel
theorem dX10_link_69 : decode cX10_link 69 = .ok (.iconst 3, 1) := by decide +kernel
theorem dX10_link_70 : decode cX10_link 70 = .ok (.goto 4, 3) := by decide +kernel
theorem dX10_link_73 : decode cX10_link 73 = .ok (.iconst 0, 1) := by decide +kernel
theorem dX10_link_74 : decode cX10_link 74 = .ok (.istore_n 3, 1) := by decide +kernel
theorem dX10_link_75 : decode cX10_link 75 = .ok (.iload_n 3, 1) := by decide +kernel
theorem dX10_link_76 : decode cX10_link 76 = .ok (.ifCond .le 10, 3) := by decide +kernel
theorem dX10_link_79 : decode cX10_link 79 = .ok (.aload_n 0, 1) := by decide +kernel
theorem dX10_link_80 : decode cX10_link 80 = .ok (.iconst 5, 1) := by decide +kernel
theorem dX10_link_81 : decode cX10_link 81 = .ok (.iload_n 3, 1) := by decide +kernel
theorem dX10_link_82 : decode cX10_link 82 = .ok (.invokevirtual 347, 3) := by decide +kernel
theorem dX10_link_85 : decode cX10_link 85 = .ok (.ireturn, 1) := by decide +kernel
theorem dX10_link_86 : decode cX10_link 86 = .ok (.aload_n 0, 1) := by decide +kernel
theorem dX10_link_87 : decode cX10_link 87 = .ok (.invokevirtual 350, 3) := by decide +kernel
theorem dX10_link_90 : decode cX10_link 90 = .ok (.aload_n 0, 1) := by decide +kernel
theorem dX10_link_91 : decode cX10_link 91 = .ok (.getfield 19, 3) := by decide +kernel
theorem dX10_link_94 : decode cX10_link 94 = .ok (.iload_n 1, 1) := by decide +kernel
theorem dX10_link_95 : decode cX10_link 95 = .ok (.iload_n 2, 1) := by decide +kernel
theorem dX10_link_96 : decode cX10_link 96 = .ok (.invokestatic 205, 3) := by decide +kernel
theorem dX10_link_99 : decode cX10_link 99 = .ok (.aload_n 0, 1) := by decide +kernel
theorem dX10_link_100 : decode cX10_link 100 = .ok (.iconst 0, 1) := by decide +kernel
theorem dX10_link_101 : decode cX10_link 101 = .ok (.iconst 0, 1) := by decide +kernel
theorem dX10_link_102 : decode cX10_link 102 = .ok (.invokevirtual 347, 3) := by decide +kernel
theorem dX10_link_105 : decode cX10_link 105 = .ok (.ireturn, 1) := by decide +kernel
theorem dX10_cut_0 : decode cX10_cut 0 = .ok (.aload_n 0, 1) := by decide +kernel
theorem dX10_cut_1 : decode cX10_cut 1 = .ok (.aload_n 0, 1) := by decide +kernel
theorem dX10_cut_2 : decode cX10_cut 2 = .ok (.iload_n 1, 1) := by decide +kernel
theorem dX10_cut_3 : decode cX10_cut 3 = .ok (.invokevirtual 283, 3) := by decide +kernel
theorem dX10_cut_6 : decode cX10_cut 6 = .ok (.ifCond .eq 11, 3) := by decide +kernel
theorem dX10_cut_9 : decode cX10_cut 9 = .ok (.aload_n 0, 1) := by decide +kernel
theorem dX10_cut_10 : decode cX10_cut 10 = .ok (.iload_n 2, 1) := by decide +kernel
theorem dX10_cut_11 : decode cX10_cut 11 = .ok (.invokevirtual 283, 3) := by decide +kernel
theorem dX10_cut_14 : decode cX10_cut 14 = .ok (.ifCond .ne 7, 3) := by decide +kernel
theorem dX10_cut_17 : decode cX10_cut 17 = .ok (.iconst 1, 1) := by decide +kernel
theorem dX10_cut_18 : decode cX10_cut 18 = .ok (.goto 4, 3) := by decide +kernel
theorem dX10_cut_21 : decode cX10_cut 21 = .ok (.iconst 0, 1) := by decide +kernel
theorem dX10_cut_22 : decode cX10_cut 22 = .ok (.iconst 0, 1) := by decide +kernel
theorem dX10_cut_23 : decode cX10_cut 23 = .ok (.invokevirtual 286, 3) := by decide +kernel
theorem dX10_cut_26 : decode cX10_cut 26 = .ok (.ifCond .eq 5, 3) := by decide +kernel
theorem dX10_cut_29 : decode cX10_cut 29 = .ok (.iconst 0, 1) := by decide +kernel
theorem dX10_cut_30 : decode cX10_cut 30 = .ok (.ireturn, 1) := by decide +kernel
theorem dX10_cut_31 : decode cX10_cut 31 = .ok (.aload_n 0, 1) := by decide +kernel
theorem dX10_cut_32 : decode cX10_cut 32 = .ok (.getfield 19, 3) := by decide +kernel
theorem dX10_cut_35 : decode cX10_cut 35 = .ok (.iload_n 1, 1) := by decide +kernel
theorem dX10_cut_36 : decode cX10_cut 36 = .ok (.iaload, 1) := by decide +kernel
theorem dX10_cut_37 : decode cX10_cut 37 = .ok (.iload_n 2, 1) := by decide +kernel
theorem dX10_cut_38 : decode cX10_cut 38 = .ok (.invokestatic 70, 3) := by decide +kernel
theorem dX10_cut_41 : decode cX10_cut 41 = .ok (.istore_n 3, 1) := by decide +kernel
theorem dX10_cut_42 : decode cX10_cut 42 = .ok (.aload_n 0, 1) := by decide +kernel
theorem dX10_cut_43 : decode cX10_cut 43 = .ok (.getfield 32, 3) := by decide +kernel
theorem dX10_cut_46 : decode cX10_cut 46 = .ok (.iload_n 3, 1) := by decide +kernel
theorem dX10_cut_47 : decode cX10_cut 47 = .ok (.ifCond .eq 7, 3) := by decide +kernel
theorem dX10_cut_50 : decode cX10_cut 50 = .ok (.iconst 1, 1) := by decide +kernel
theorem dX10_cut_51 : decode cX10_cut 51 = .ok (.goto 5, 3) := by decide +kernel
theorem dX10_cut_54 : decode cX10_cut 54 = .ok (.bipush 6, 2) := by decide +kernel
theorem dX10_cut_56 : decode cX10_cut 56 = .ok (.dup2, 1) := by decide +kernel
theorem dX10_cut_57 : decode cX10_cut 57 = .ok (.iaload, 1) := by decide +kernel
theorem dX10_cut_58 : decode cX10_cut 58 = .ok (.iconst 1, 1) := by decide +kernel
theorem dX10_cut_59 : decode cX10_cut 59 = .ok (.iadd, 1) := by decide +kernel
theorem dX10_cut_60 : decode cX10_cut 60 = .ok (.iastore, 1) := by decide +kernel
theorem dX10_cut_61 : decode cX10_cut 61 = .ok (.iload_n 3, 1) := by decide +kernel
theorem dX10_cut_62 : decode cX10_cut 62 = .ok (.ifCond .ne 5, 3) := by decide +kernel
theorem dX10_cut_65 : decode cX10_cut 65 = .ok (.iconst 0, 1) := by decide +kernel
theorem dX10_cut_66 : decode cX10_cut 66 = .ok (.ireturn, 1) := by decide +kernel
theorem dX10_cut_67 : decode cX10_cut 67 = .ok (.aload_n 0, 1) := by decide +kernel
theorem dX10_cut_68 : decode cX10_cut 68 = .ok (.invokevirtual 350, 3) := by decide +kernel
theorem dX10_cut_71 : decode cX10_cut 71 = .ok (.aload_n 0, 1) := by decide +kernel
theorem dX10_cut_72 : decode cX10_cut 72 = .ok (.getfield 19, 3) := by decide +kernel
theorem dX10_cut_75 : decode cX10_cut 75 = .ok (.iload_n 1, 1) := by decide +kernel
theorem dX10_cut_76 : decode cX10_cut 76 = .ok (.iload_n 2, 1) := by decide +kernel
theorem dX10_cut_77 : decode cX10_cut 77 = .ok (.invokestatic 274, 3) := by decide +kernel
theorem dX10_cut_80 : decode cX10_cut 80 = .ok (.iconst 1, 1) := by decide +kernel
theorem dX10_cut_81 : decode cX10_cut 81 = .ok (.ireturn, 1) := by decide +kernel
theorem dX10_regraft_0 : decode cX10_regraft 0 = .ok (.aload_n 0, 1) := by decide +kernel
theorem dX10_regraft_1 : decode cX10_regraft 1 = .ok (.aload_n 0, 1) := by decide +kernel
theorem dX10_regraft_2 : decode cX10_regraft 2 = .ok (.iload_n 1, 1) := by decide +kernel
theorem dX10_regraft_3 : decode cX10_regraft 3 = .ok (.invokevirtual 283, 3) := by decide +kernel
theorem dX10_regraft_6 : decode cX10_regraft 6 = .ok (.ifCond .eq 19, 3) := by decide +kernel
theorem dX10_regraft_9 : decode cX10_regraft 9 = .ok (.aload_n 0, 1) := by decide +kernel
theorem dX10_regraft_10 : decode cX10_regraft 10 = .ok (.iload_n 2, 1) := by decide +kernel
theorem dX10_regraft_11 : decode cX10_regraft 11 = .ok (.invokevirtual 283, 3) := by decide +kernel
theorem dX10_regraft_14 : decode cX10_regraft 14 = .ok (.ifCond .eq 11, 3) := by decide +kernel
theorem dX10_regraft_17 : decode cX10_regraft 17 = .ok (.aload_n 0, 1) := by decide +kernel
theorem dX10_regraft_18 : decode cX10_regraft 18 = .ok (.iload_n 3, 1) := by decide +kernel
theorem dX10_regraft_19 : decode cX10_regraft 19 = .ok (.invokevirtual 283, 3) := by decide +kernel
theorem dX10_regraft_22 : decode cX10_regraft 22 = .ok (.ifCond .ne 7, 3) := by decide +kernel
theorem dX10_regraft_25 : decode cX10_regraft 25 = .ok (.iconst 1, 1) := by decide +kernel
theorem dX10_regraft_26 : decode cX10_regraft 26 = .ok (.goto 4, 3) := by decide +kernel
theorem dX10_regraft_29 : decode cX10_regraft 29 = .ok (.iconst 0, 1) := by decide +kernel
theorem dX10_regraft_30 : decode cX10_regraft 30 = .ok (.iconst 0, 1) := by decide +kernel
theorem dX10_regraft_31 : decode cX10_regraft 31 = .ok (.invokevirtual 286, 3) := by decide +kernel
theorem dX10_regraft_34 : decode cX10_regraft 34 = .ok (.ifCond .eq 5, 3) := by decide +kernel
theorem dX10_regraft_37 : decode cX10_regraft 37 = .ok (.iconst 0, 1) := by decide +kernel
theorem dX10_regraft_38 : decode cX10_regraft 38 = .ok (.ireturn, 1) := by decide +kernel
theorem dX10_regraft_39 : decode cX10_regraft 39 = .ok (.aload_n 0, 1) := by decide +kernel
theorem dX10_regraft_40 : decode cX10_regraft 40 = .ok (.getfield 19, 3) := by decide +kernel
theorem dX10_regraft_43 : decode cX10_regraft 43 = .ok (.iload_n 1, 1) := by decide +kernel
theorem dX10_regraft_44 : decode cX10_regraft 44 = .ok (.iaload, 1) := by decide +kernel
theorem dX10_regraft_45 : decode cX10_regraft 45 = .ok (.iload_n 2, 1) := by decide +kernel
theorem dX10_regraft_46 : decode cX10_regraft 46 = .ok (.invokestatic 70, 3) := by decide +kernel
theorem dX10_regraft_49 : decode cX10_regraft 49 = .ok (.ifCond .ne 11, 3) := by decide +kernel
theorem dX10_regraft_52 : decode cX10_regraft 52 = .ok (.aload_n 0, 1) := by decide +kernel
theorem dX10_regraft_53 : decode cX10_regraft 53 = .ok (.bipush 7, 2) := by decide +kernel
theorem dX10_regraft_55 : decode cX10_regraft 55 = .ok (.iconst 1, 1) := by decide +kernel
theorem dX10_regraft_56 : decode cX10_regraft 56 = .ok (.invokevirtual 347, 3) := by decide +kernel
theorem dX10_regraft_59 : decode cX10_regraft 59 = .ok (.ireturn, 1) := by decide +kernel
theorem dX10_regraft_60 : decode cX10_regraft 60 = .ok (.aload_n 0, 1) := by decide +kernel
theorem dX10_regraft_61 : decode cX10_regraft 61 = .ok (.iload_n 1, 1) := by decide +kernel
theorem dX10_regraft_62 : decode cX10_regraft 62 = .ok (.iload_n 2, 1) := by decide +kernel
theorem dX10_regraft_63 : decode cX10_regraft 63 = .ok (.invokevirtual 77, 3) := by decide +kernel
theorem dX10_regraft_66 : decode cX10_regraft 66 = .ok (.iload_n 3, 1) := by decide +kernel
theorem dX10_regraft_67 : decode cX10_regraft 67 = .ok (.invokestatic 70, 3) := by decide +kernel
theorem dX10_regraft_70 : decode cX10_regraft 70 = .ok (.ifCond .eq 11, 3) := by decide +kernel
theorem dX10_regraft_73 : decode cX10_regraft 73 = .ok (.aload_n 0, 1) := by decide +kernel
theorem dX10_regraft_74 : decode cX10_regraft 74 = .ok (.bipush 7, 2) := by decide +kernel
theorem dX10_regraft_76 : decode cX10_regraft 76 = .ok (.iconst 2, 1) := by decide +kernel
theorem dX10_regraft_77 : decode cX10_regraft 77 = .ok (.invokevirtual 347, 3) := by decide +kernel
theorem dX10_regraft_80 : decode cX10_regraft 80 = .ok (.ireturn, 1) := by decide +kernel
theorem dX10_regraft_81 : decode cX10_regraft 81 = .ok (.aload_n 0, 1) := by decide +kernel
theorem dX10_regraft_82 : decode cX10_regraft 82 = .ok (.invokevirtual 350, 3) := by decide +kernel
theorem dX10_regraft_85 : decode cX10_regraft 85 = .ok (.aload_n 0, 1) := by decide +kernel
theorem dX10_regraft_86 : decode cX10_regraft 86 = .ok (.getfield 19, 3) := by decide +kernel
theorem dX10_regraft_89 : decode cX10_regraft 89 = .ok (.iload_n 1, 1) := by decide +kernel
theorem dX10_regraft_90 : decode cX10_regraft 90 = .ok (.iload_n 2, 1) := by decide +kernel
theorem dX10_regraft_91 : decode cX10_regraft 91 = .ok (.invokestatic 274, 3) := by decide +kernel
theorem dX10_regraft_94 : decode cX10_regraft 94 = .ok (.aload_n 0, 1) := by decide +kernel
theorem dX10_regraft_95 : decode cX10_regraft 95 = .ok (.getfield 19, 3) := by decide +kernel
theorem dX10_regraft_98 : decode cX10_regraft 98 = .ok (.iload_n 1, 1) := by decide +kernel
theorem dX10_regraft_99 : decode cX10_regraft 99 = .ok (.iload_n 3, 1) := by decide +kernel
theorem dX10_regraft_100 : decode cX10_regraft 100 = .ok (.invokestatic 205, 3) := by decide +kernel
theorem dX10_regraft_103 : decode cX10_regraft 103 = .ok (.aload_n 0, 1) := by decide +kernel
theorem dX10_regraft_104 : decode cX10_regraft 104 = .ok (.iconst 2, 1) := by decide +kernel
theorem dX10_regraft_105 : decode cX10_regraft 105 = .ok (.iconst 0, 1) := by decide +kernel
theorem dX10_regraft_106 : decode cX10_regraft 106 = .ok (.invokevirtual 347, 3) := by decide +kernel
theorem dX10_regraft_109 : decode cX10_regraft 109 = .ok (.ireturn, 1) := by decide +kernel
theorem dX10_prune_0 : decode cX10_prune 0 = .ok (.aload_n 0, 1) := by decide +kernel
theorem dX10_prune_1 : decode cX10_prune 1 = .ok (.iload_n 1, 1) := by decide +kernel
theorem dX10_prune_2 : decode cX10_prune 2 = .ok (.iconst 1, 1) := by decide +kernel
theorem dX10_prune_3 : decode cX10_prune 3 = .ok (.bipush 9, 2) := by decide +kernel
theorem dX10_prune_5 : decode cX10_prune 5 = .ok (.invokestatic 153, 3) := by decide +kernel
theorem dX10_prune_8 : decode cX10_prune 8 = .ok (.ifCond .ne 7, 3) := by decide +kernel
theorem dX10_prune_11 : decode cX10_prune 11 = .ok (.iconst 1, 1) := by decide +kernel
theorem dX10_prune_12 : decode cX10_prune 12 = .ok (.goto 4, 3) := by decide +kernel
theorem dX10_prune_15 : decode cX10_prune 15 = .ok (.iconst 0, 1) := by decide +kernel
theorem dX10_prune_16 : decode cX10_prune 16 = .ok (.iconst 0, 1) := by decide +kernel
theorem dX10_prune_17 : decode cX10_prune 17 = .ok (.invokevirtual 286, 3) := by decide +kernel
theorem dX10_prune_20 : decode cX10_prune 20 = .ok (.ifCond .eq 5, 3) := by decide +kernel
theorem dX10_prune_23 : decode cX10_prune 23 = .ok (.iconst 0, 1) := by decide +kernel
theorem dX10_prune_24 : decode cX10_prune 24 = .ok (.ireturn, 1) := by decide +kernel
theorem dX10_prune_25 : decode cX10_prune 25 = .ok (.aload_n 0, 1) := by decide +kernel
theorem dX10_prune_26 : decode cX10_prune 26 = .ok (.invokevirtual 350, 3) := by decide +kernel
theorem dX10_prune_29 : decode cX10_prune 29 = .ok (.aload_n 0, 1) := by decide +kernel
theorem dX10_prune_30 : decode cX10_prune 30 = .ok (.getfield 32, 3) := by decide +kernel
theorem dX10_prune_33 : decode cX10_prune 33 = .ok (.iconst 3, 1) := by decide +kernel
theorem dX10_prune_34 : decode cX10_prune 34 = .ok (.dup2, 1) := by decide +kernel
theorem dX10_prune_35 : decode cX10_prune 35 = .ok (.iaload, 1) := by decide +kernel
theorem dX10_prune_36 : decode cX10_prune 36 = .ok (.iload_n 1, 1) := by decide +kernel
theorem dX10_prune_37 : decode cX10_prune 37 = .ok (.iadd, 1) := by decide +kernel
theorem dX10_prune_38 : decode cX10_prune 38 = .ok (.iastore, 1) := by decide +kernel
theorem dX10_prune_39 : decode cX10_prune 39 = .ok (.aload_n 0, 1) := by decide +kernel
theorem dX10_prune_40 : decode cX10_prune 40 = .ok (.invokevirtual 277, 3) := by decide +kernel
theorem dX10_prune_43 : decode cX10_prune 43 = .ok (.iconst 0, 1) := by decide +kernel
theorem dX10_prune_44 : decode cX10_prune 44 = .ok (.istore_n 2, 1) := by decide +kernel
theorem dX10_prune_45 : decode cX10_prune 45 = .ok (.iconst 0, 1) := by decide +kernel
theorem dX10_prune_46 : decode cX10_prune 46 = .ok (.istore_n 3, 1) := by decide +kernel
theorem dX10_prune_47 : decode cX10_prune 47 = .ok (.iload_n 3, 1) := by decide +kernel
theorem dX10_prune_48 : decode cX10_prune 48 = .ok (.iload_n 1, 1) := by decide +kernel
theorem dX10_prune_49 : decode cX10_prune 49 = .ok (.if_icmp .ge 16, 3) := by decide +kernel
theorem dX10_prune_52 : decode cX10_prune 52 = .ok (.iload_n 2, 1) := by decide +kernel
theorem dX10_prune_53 : decode cX10_prune 53 = .ok (.aload_n 0, 1) := by decide +kernel
theorem dX10_prune_54 : decode cX10_prune 54 = .ok (.invokevirtual 280, 3) := by decide +kernel
theorem dX10_prune_57 : decode cX10_prune 57 = .ok (.iadd, 1) := by decide +kernel
theorem dX10_prune_58 : decode cX10_prune 58 = .ok (.istore_n 2, 1) := by decide +kernel
theorem dX10_prune_59 : decode cX10_prune 59 = .ok (.iinc 3 1, 3) := by decide +kernel
theorem dX10_prune_62 : decode cX10_prune 62 = .ok (.goto (-15), 3) := by decide +kernel
theorem dX10_prune_65 : decode cX10_prune 65 = .ok (.iconst 0, 1) := by decide +kernel
theorem dX10_prune_66 : decode cX10_prune 66 = .ok (.istore_n 3, 1) := by decide +kernel
theorem dX10_prune_67 : decode cX10_prune 67 = .ok (.iload_n 3, 1) := by decide +kernel
theorem dX10_prune_68 : decode cX10_prune 68 = .ok (.bipush 20, 2) := by decide +kernel
theorem dX10_prune_70 : decode cX10_prune 70 = .ok (.if_icmp .ge 21, 3) := by decide +kernel
theorem dX10_prune_73 : decode cX10_prune 73 = .ok (.aload_n 0, 1) := by decide +kernel
theorem dX10_prune_74 : decode cX10_prune 74 = .ok (.getfield 19, 3) := by decide +kernel
theorem dX10_prune_77 : decode cX10_prune 77 = .ok (.iload_n 3, 1) := by decide +kernel
theorem dX10_prune_78 : decode cX10_prune 78 = .ok (.aload_n 0, 1) := by decide +kernel
theorem dX10_prune_79 : decode cX10_prune 79 = .ok (.getfield 23, 3) := by decide +kernel
theorem dX10_prune_82 : decode cX10_prune 82 = .ok (.iload_n 3, 1) := by decide +kernel
theorem dX10_prune_83 : decode cX10_prune 83 = .ok (.iaload, 1) := by decide +kernel
theorem dX10_prune_84 : decode cX10_prune 84 = .ok (.iastore, 1) := by decide +kernel
theorem dX10_prune_85 : decode cX10_prune 85 = .ok (.iinc 3 1, 3) := by decide +kernel
theorem dX10_prune_88 : decode cX10_prune 88 = .ok (.goto (-21), 3) := by decide +kernel
theorem dX10_prune_91 : decode cX10_prune 91 = .ok (.iload_n 2, 1) := by decide +kernel
theorem dX10_prune_92 : decode cX10_prune 92 = .ok (.ireturn, 1) := by decide +kernel
theorem dX10_comes_0 : decode cX10_comes 0 = .ok (.iconst 0, 1) := by decide +kernel
theorem dX10_comes_1 : decode cX10_comes 1 = .ok (.istore_n 1, 1) := by decide +kernel
theorem dX10_comes_2 : decode cX10_comes 2 = .ok (.iconst 0, 1) := by decide +kernel
theorem dX10_comes_3 : decode cX10_comes 3 = .ok (.istore_n 2, 1) := by decide +kernel
theorem dX10_comes_4 : decode cX10_comes 4 = .ok (.iload_n 2, 1) := by decide +kernel
theorem dX10_comes_5 : decode cX10_comes 5 = .ok (.aload_n 0, 1) := by decide +kernel
theorem dX10_comes_6 : decode cX10_comes 6 = .ok (.getfield 35, 3) := by decide +kernel
theorem dX10_comes_9 : decode cX10_comes 9 = .ok (.if_icmp .ge 30, 3) := by decide +kernel
theorem dX10_comes_12 : decode cX10_comes 12 = .ok (.iload_n 1, 1) := by decide +kernel
theorem dX10_comes_13 : decode cX10_comes 13 = .ok (.aload_n 0, 1) := by decide +kernel
theorem dX10_comes_14 : decode cX10_comes 14 = .ok (.getfield 23, 3) := by decide +kernel
theorem dX10_comes_17 : decode cX10_comes 17 = .ok (.iload_n 2, 1) := by decide +kernel
theorem dX10_comes_18 : decode cX10_comes 18 = .ok (.iaload, 1) := by decide +kernel
theorem dX10_comes_19 : decode cX10_comes 19 = .ok (.aload_n 0, 1) := by decide +kernel
theorem dX10_comes_20 : decode cX10_comes 20 = .ok (.getfield 19, 3) := by decide +kernel
theorem dX10_comes_23 : decode cX10_comes 23 = .ok (.iload_n 2, 1) := by decide +kernel
theorem dX10_comes_24 : decode cX10_comes 24 = .ok (.iaload, 1) := by decide +kernel
theorem dX10_comes_25 : decode cX10_comes 25 = .ok (.iconst (-1), 1) := by decide +kernel
theorem dX10_comes_26 : decode cX10_comes 26 = .ok (.ixor, 1) := by decide +kernel
theorem dX10_comes_27 : decode cX10_comes 27 = .ok (.iand, 1) := by decide +kernel
theorem dX10_comes_28 : decode cX10_comes 28 = .ok (.invokestatic 111, 3) := by decide +kernel
theorem dX10_comes_31 : decode cX10_comes 31 = .ok (.iadd, 1) := by decide +kernel
theorem dX10_comes_32 : decode cX10_comes 32 = .ok (.istore_n 1, 1) := by decide +kernel
theorem dX10_comes_33 : decode cX10_comes 33 = .ok (.iinc 2 1, 3) := by decide +kernel
theorem dX10_comes_36 : decode cX10_comes 36 = .ok (.goto (-32), 3) := by decide +kernel
theorem dX10_comes_39 : decode cX10_comes 39 = .ok (.iconst 0, 1) := by decide +kernel
theorem dX10_comes_40 : decode cX10_comes 40 = .ok (.istore_n 2, 1) := by decide +kernel
theorem dX10_comes_41 : decode cX10_comes 41 = .ok (.iload_n 2, 1) := by decide +kernel
theorem dX10_comes_42 : decode cX10_comes 42 = .ok (.aload_n 0, 1) := by decide +kernel
theorem dX10_comes_43 : decode cX10_comes 43 = .ok (.getfield 35, 3) := by decide +kernel
theorem dX10_comes_46 : decode cX10_comes 46 = .ok (.if_icmp .ge 21, 3) := by decide +kernel
theorem dX10_comes_49 : decode cX10_comes 49 = .ok (.aload_n 0, 1) := by decide +kernel
theorem dX10_comes_50 : decode cX10_comes 50 = .ok (.getfield 19, 3) := by decide +kernel
theorem dX10_comes_53 : decode cX10_comes 53 = .ok (.iload_n 2, 1) := by decide +kernel
theorem dX10_comes_54 : decode cX10_comes 54 = .ok (.aload_n 0, 1) := by decide +kernel
theorem dX10_comes_55 : decode cX10_comes 55 = .ok (.getfield 23, 3) := by decide +kernel
theorem dX10_comes_58 : decode cX10_comes 58 = .ok (.iload_n 2, 1) := by decide +kernel
theorem dX10_comes_59 : decode cX10_comes 59 = .ok (.iaload, 1) := by decide +kernel
theorem dX10_comes_60 : decode cX10_comes 60 = .ok (.iastore, 1) := by decide +kernel
theorem dX10_comes_61 : decode cX10_comes 61 = .ok (.iinc 2 1, 3) := by decide +kernel
theorem dX10_comes_64 : decode cX10_comes 64 = .ok (.goto (-23), 3) := by decide +kernel
theorem dX10_comes_67 : decode cX10_comes 67 = .ok (.iload_n 1, 1) := by decide +kernel
theorem dX10_comes_68 : decode cX10_comes 68 = .ok (.iconst 2, 1) := by decide +kernel
theorem dX10_comes_69 : decode cX10_comes 69 = .ok (.idiv, 1) := by decide +kernel
theorem dX10_comes_70 : decode cX10_comes 70 = .ok (.ireturn, 1) := by decide +kernel
theorem dX10_exchanged_0 : decode cX10_exchanged 0 = .ok (.iload_n 0, 1) := by decide +kernel
theorem dX10_exchanged_1 : decode cX10_exchanged 1 = .ok (.iload_n 1, 1) := by decide +kernel
theorem dX10_exchanged_2 : decode cX10_exchanged 2 = .ok (.if_icmp .ne 7, 3) := by decide +kernel
theorem dX10_exchanged_5 : decode cX10_exchanged 5 = .ok (.iload_n 2, 1) := by decide +kernel
theorem dX10_exchanged_6 : decode cX10_exchanged 6 = .ok (.goto 13, 3) := by decide +kernel
theorem dX10_exchanged_9 : decode cX10_exchanged 9 = .ok (.iload_n 0, 1) := by decide +kernel
theorem dX10_exchanged_10 : decode cX10_exchanged 10 = .ok (.iload_n 2, 1) := by decide +kernel
theorem dX10_exchanged_11 : decode cX10_exchanged 11 = .ok (.if_icmp .ne 7, 3) := by decide +kernel
theorem dX10_exchanged_14 : decode cX10_exchanged 14 = .ok (.iload_n 1, 1) := by decide +kernel
theorem dX10_exchanged_15 : decode cX10_exchanged 15 = .ok (.goto 4, 3) := by decide +kernel
theorem dX10_exchanged_18 : decode cX10_exchanged 18 = .ok (.iload_n 0, 1) := by decide +kernel
theorem dX10_exchanged_19 : decode cX10_exchanged 19 = .ok (.ireturn, 1) := by decide +kernel
theorem dX10_swap_0 : decode cX10_swap 0 = .ok (.aload_n 0, 1) := by decide +kernel
theorem dX10_swap_1 : decode cX10_swap 1 = .ok (.aload_n 0, 1) := by decide +kernel
theorem dX10_swap_2 : decode cX10_swap 2 = .ok (.iload_n 1, 1) := by decide +kernel
theorem dX10_swap_3 : decode cX10_swap 3 = .ok (.invokevirtual 283, 3) := by decide +kernel
theorem dX10_swap_6 : decode cX10_swap 6 = .ok (.ifCond .eq 11, 3) := by decide +kernel
theorem dX10_swap_9 : decode cX10_swap 9 = .ok (.aload_n 0, 1) := by decide +kernel
theorem dX10_swap_10 : decode cX10_swap 10 = .ok (.iload_n 2, 1) := by decide +kernel
theorem dX10_swap_11 : decode cX10_swap 11 = .ok (.invokevirtual 283, 3) := by decide +kernel
theorem dX10_swap_14 : decode cX10_swap 14 = .ok (.ifCond .ne 7, 3) := by decide +kernel
theorem dX10_swap_17 : decode cX10_swap 17 = .ok (.iconst 1, 1) := by decide +kernel
theorem dX10_swap_18 : decode cX10_swap 18 = .ok (.goto 4, 3) := by decide +kernel
theorem dX10_swap_21 : decode cX10_swap 21 = .ok (.iconst 0, 1) := by decide +kernel
theorem dX10_swap_22 : decode cX10_swap 22 = .ok (.iconst 0, 1) := by decide +kernel
theorem dX10_swap_23 : decode cX10_swap 23 = .ok (.invokevirtual 286, 3) := by decide +kernel
theorem dX10_swap_26 : decode cX10_swap 26 = .ok (.ifCond .eq 5, 3) := by decide +kernel
theorem dX10_swap_29 : decode cX10_swap 29 = .ok (.iconst 0, 1) := by decide +kernel
theorem dX10_swap_30 : decode cX10_swap 30 = .ok (.ireturn, 1) := by decide +kernel
theorem dX10_swap_31 : decode cX10_swap 31 = .ok (.aload_n 0, 1) := by decide +kernel
theorem dX10_swap_32 : decode cX10_swap 32 = .ok (.invokevirtual 350, 3) := by decide +kernel
theorem dX10_swap_35 : decode cX10_swap 35 = .ok (.iconst 0, 1) := by decide +kernel
theorem dX10_swap_36 : decode cX10_swap 36 = .ok (.istore_n 3, 1) := by decide +kernel
theorem dX10_swap_37 : decode cX10_swap 37 = .ok (.iload_n 3, 1) := by decide +kernel
theorem dX10_swap_38 : decode cX10_swap 38 = .ok (.bipush 10, 2) := by decide +kernel
theorem dX10_swap_40 : decode cX10_swap 40 = .ok (.if_icmp .ge 16, 3) := by decide +kernel
theorem dX10_swap_43 : decode cX10_swap 43 = .ok (.aload_n 0, 1) := by decide +kernel
theorem dX10_swap_44 : decode cX10_swap 44 = .ok (.getfield 23, 3) := by decide +kernel
theorem dX10_swap_47 : decode cX10_swap 47 = .ok (.iload_n 3, 1) := by decide +kernel
theorem dX10_swap_48 : decode cX10_swap 48 = .ok (.iconst 0, 1) := by decide +kernel
theorem dX10_swap_49 : decode cX10_swap 49 = .ok (.iastore, 1) := by decide +kernel
theorem dX10_swap_50 : decode cX10_swap 50 = .ok (.iinc 3 1, 3) := by decide +kernel
theorem dX10_swap_53 : decode cX10_swap 53 = .ok (.goto (-16), 3) := by decide +kernel
theorem dX10_swap_56 : decode cX10_swap 56 = .ok (.iconst 0, 1) := by decide +kernel
theorem dX10_swap_57 : decode cX10_swap 57 = .ok (.istore_n 3, 1) := by decide +kernel
theorem dX10_swap_58 : decode cX10_swap 58 = .ok (.iload_n 3, 1) := by decide +kernel
theorem dX10_swap_59 : decode cX10_swap 59 = .ok (.aload_n 0, 1) := by decide +kernel
theorem dX10_swap_60 : decode cX10_swap 60 = .ok (.getfield 35, 3) := by decide +kernel
theorem dX10_swap_63 : decode cX10_swap 63 = .ok (.if_icmp .ge 58, 3) := by decide +kernel
theorem dX10_swap_66 : decode cX10_swap 66 = .ok (.iconst 0, 1) := by decide +kernel
theorem dX10_swap_67 : decode cX10_swap 67 = .ok (.istore 4, 2) := by decide +kernel
theorem dX10_swap_69 : decode cX10_swap 69 = .ok (.iload 4, 2) := by decide +kernel
theorem dX10_swap_71 : decode cX10_swap 71 = .ok (.iload_n 3, 1) := by decide +kernel
theorem dX10_swap_72 : decode cX10_swap 72 = .ok (.if_icmp .ge 43, 3) := by decide +kernel
theorem dX10_swap_75 : decode cX10_swap 75 = .ok (.aload_n 0, 1) := by decide +kernel
theorem dX10_swap_76 : decode cX10_swap 76 = .ok (.getfield 19, 3) := by decide +kernel
theorem dX10_swap_79 : decode cX10_swap 79 = .ok (.iload_n 3, 1) := by decide +kernel
theorem dX10_swap_80 : decode cX10_swap 80 = .ok (.iaload, 1) := by decide +kernel
theorem dX10_swap_81 : decode cX10_swap 81 = .ok (.iload 4, 2) := by decide +kernel
theorem dX10_swap_83 : decode cX10_swap 83 = .ok (.invokestatic 70, 3) := by decide +kernel
theorem dX10_swap_86 : decode cX10_swap 86 = .ok (.ifCond .eq 23, 3) := by decide +kernel
theorem dX10_swap_89 : decode cX10_swap 89 = .ok (.aload_n 0, 1) := by decide +kernel
theorem dX10_swap_90 : decode cX10_swap 90 = .ok (.getfield 23, 3) := by decide +kernel
theorem dX10_swap_93 : decode cX10_swap 93 = .ok (.iload_n 3, 1) := by decide +kernel
theorem dX10_swap_94 : decode cX10_swap 94 = .ok (.iload_n 1, 1) := by decide +kernel
theorem dX10_swap_95 : decode cX10_swap 95 = .ok (.iload_n 2, 1) := by decide +kernel
theorem dX10_swap_96 : decode cX10_swap 96 = .ok (.invokestatic 353, 3) := by decide +kernel
theorem dX10_swap_99 : decode cX10_swap 99 = .ok (.iload 4, 2) := by decide +kernel
theorem dX10_swap_101 : decode cX10_swap 101 = .ok (.iload_n 1, 1) := by decide +kernel
theorem dX10_swap_102 : decode cX10_swap 102 = .ok (.iload_n 2, 1) := by decide +kernel
theorem dX10_swap_103 : decode cX10_swap 103 = .ok (.invokestatic 353, 3) := by decide +kernel
theorem dX10_swap_106 : decode cX10_swap 106 = .ok (.invokestatic 205, 3) := by decide +kernel
theorem dX10_swap_109 : decode cX10_swap 109 = .ok (.iinc 4 1, 3) := by decide +kernel
theorem dX10_swap_112 : decode cX10_swap 112 = .ok (.goto (-43), 3) := by decide +kernel
theorem dX10_swap_115 : decode cX10_swap 115 = .ok (.iinc 3 1, 3) := by decide +kernel
theorem dX10_swap_118 : decode cX10_swap 118 = .ok (.goto (-60), 3) := by decide +kernel
theorem dX10_swap_121 : decode cX10_swap 121 = .ok (.aload_n 0, 1) := by decide +kernel
theorem dX10_swap_122 : decode cX10_swap 122 = .ok (.invokevirtual 356, 3) := by decide +kernel
theorem dX10_swap_125 : decode cX10_swap 125 = .ok (.ireturn, 1) := by decide +kernel
theorem dX10_setWeight_0 : decode cX10_setWeight 0 = .ok (.aload_n 0, 1) := by decide +kernel
theorem dX10_setWeight_1 : decode cX10_setWeight 1 = .ok (.iload_n 1, 1) := by decide +kernel
theorem dX10_setWeight_2 : decode cX10_setWeight 2 = .ok (.invokevirtual 283, 3) := by decide +kernel
theorem dX10_setWeight_5 : decode cX10_setWeight 5 = .ok (.istore_n 3, 1) := by decide +kernel
theorem dX10_setWeight_6 : decode cX10_setWeight 6 = .ok (.aload_n 0, 1) := by decide +kernel
theorem dX10_setWeight_7 : decode cX10_setWeight 7 = .ok (.iload_n 3, 1) := by decide +kernel
theorem dX10_setWeight_8 : decode cX10_setWeight 8 = .ok (.ifCond .ne 7, 3) := by decide +kernel
theorem dX10_setWeight_11 : decode cX10_setWeight 11 = .ok (.iconst 1, 1) := by decide +kernel
theorem dX10_setWeight_12 : decode cX10_setWeight 12 = .ok (.goto 4, 3) := by decide +kernel
theorem dX10_setWeight_15 : decode cX10_setWeight 15 = .ok (.iconst 0, 1) := by decide +kernel
theorem dX10_setWeight_16 : decode cX10_setWeight 16 = .ok (.iload_n 3, 1) := by decide +kernel
theorem dX10_setWeight_17 : decode cX10_setWeight 17 = .ok (.ifCond .eq 17, 3) := by decide +kernel
theorem dX10_setWeight_20 : decode cX10_setWeight 20 = .ok (.iload_n 2, 1) := by decide +kernel
theorem dX10_setWeight_21 : decode cX10_setWeight 21 = .ok (.iconst 0, 1) := by decide +kernel
theorem dX10_setWeight_22 : decode cX10_setWeight 22 = .ok (.bipush 99, 2) := by decide +kernel
theorem dX10_setWeight_24 : decode cX10_setWeight 24 = .ok (.invokestatic 153, 3) := by decide +kernel
theorem dX10_setWeight_27 : decode cX10_setWeight 27 = .ok (.ifCond .ne 7, 3) := by decide +kernel
theorem dX10_setWeight_30 : decode cX10_setWeight 30 = .ok (.iconst 1, 1) := by decide +kernel
theorem dX10_setWeight_31 : decode cX10_setWeight 31 = .ok (.goto 4, 3) := by decide +kernel
theorem dX10_setWeight_34 : decode cX10_setWeight 34 = .ok (.iconst 0, 1) := by decide +kernel
theorem dX10_setWeight_35 : decode cX10_setWeight 35 = .ok (.invokevirtual 286, 3) := by decide +kernel
theorem dX10_setWeight_38 : decode cX10_setWeight 38 = .ok (.ifCond .eq 5, 3) := by decide +kernel
theorem dX10_setWeight_41 : decode cX10_setWeight 41 = .ok (.iconst 0, 1) := by decide +kernel
theorem dX10_setWeight_42 : decode cX10_setWeight 42 = .ok (.ireturn, 1) := by decide +kernel
theorem dX10_setWeight_43 : decode cX10_setWeight 43 = .ok (.aload_n 0, 1) := by decide +kernel
theorem dX10_setWeight_44 : decode cX10_setWeight 44 = .ok (.invokevirtual 350, 3) := by decide +kernel
theorem dX10_setWeight_47 : decode cX10_setWeight 47 = .ok (.aload_n 0, 1) := by decide +kernel
theorem dX10_setWeight_48 : decode cX10_setWeight 48 = .ok (.getfield 19, 3) := by decide +kernel
theorem dX10_setWeight_51 : decode cX10_setWeight 51 = .ok (.bipush 10, 2) := by decide +kernel
theorem dX10_setWeight_53 : decode cX10_setWeight 53 = .ok (.iload_n 1, 1) := by decide +kernel
theorem dX10_setWeight_54 : decode cX10_setWeight 54 = .ok (.iadd, 1) := by decide +kernel
theorem dX10_setWeight_55 : decode cX10_setWeight 55 = .ok (.iaload, 1) := by decide +kernel
theorem dX10_setWeight_56 : decode cX10_setWeight 56 = .ok (.istore 4, 2) := by decide +kernel
theorem dX10_setWeight_58 : decode cX10_setWeight 58 = .ok (.aload_n 0, 1) := by decide +kernel
theorem dX10_setWeight_59 : decode cX10_setWeight 59 = .ok (.getfield 19, 3) := by decide +kernel
theorem dX10_setWeight_62 : decode cX10_setWeight 62 = .ok (.bipush 10, 2) := by decide +kernel
theorem dX10_setWeight_64 : decode cX10_setWeight 64 = .ok (.iload_n 1, 1) := by decide +kernel
theorem dX10_setWeight_65 : decode cX10_setWeight 65 = .ok (.iadd, 1) := by decide +kernel
theorem dX10_setWeight_66 : decode cX10_setWeight 66 = .ok (.iload_n 2, 1) := by decide +kernel
theorem dX10_setWeight_67 : decode cX10_setWeight 67 = .ok (.iastore, 1) := by decide +kernel
theorem dX10_setWeight_68 : decode cX10_setWeight 68 = .ok (.iload 4, 2) := by decide +kernel
theorem dX10_setWeight_70 : decode cX10_setWeight 70 = .ok (.ireturn, 1) := by decide +kernel
theorem dX10_becomes_0 : decode cX10_becomes 0 = .ok (.aload_n 0, 1) := by decide +kernel
theorem dX10_becomes_1 : decode cX10_becomes 1 = .ok (.invokevirtual 350, 3) := by decide +kernel
theorem dX10_becomes_4 : decode cX10_becomes 4 = .ok (.aload_n 0, 1) := by decide +kernel
theorem dX10_becomes_5 : decode cX10_becomes 5 = .ok (.getfield 32, 3) := by decide +kernel
theorem dX10_becomes_8 : decode cX10_becomes 8 = .ok (.iconst 4, 1) := by decide +kernel
theorem dX10_becomes_9 : decode cX10_becomes 9 = .ok (.dup2, 1) := by decide +kernel
theorem dX10_becomes_10 : decode cX10_becomes 10 = .ok (.iaload, 1) := by decide +kernel
theorem dX10_becomes_11 : decode cX10_becomes 11 = .ok (.iconst 1, 1) := by decide +kernel
theorem dX10_becomes_12 : decode cX10_becomes 12 = .ok (.iadd, 1) := by decide +kernel
theorem dX10_becomes_13 : decode cX10_becomes 13 = .ok (.iastore, 1) := by decide +kernel
theorem dX10_becomes_14 : decode cX10_becomes 14 = .ok (.aload_n 0, 1) := by decide +kernel
theorem dX10_becomes_15 : decode cX10_becomes 15 = .ok (.iload_n 1, 1) := by decide +kernel
theorem dX10_becomes_16 : decode cX10_becomes 16 = .ok (.aload_n 0, 1) := by decide +kernel
theorem dX10_becomes_17 : decode cX10_becomes 17 = .ok (.getfield 35, 3) := by decide +kernel
theorem dX10_becomes_20 : decode cX10_becomes 20 = .ok (.invokevirtual 343, 3) := by decide +kernel
theorem dX10_becomes_23 : decode cX10_becomes 23 = .ok (.aload_n 0, 1) := by decide +kernel
theorem dX10_becomes_24 : decode cX10_becomes 24 = .ok (.aload_n 0, 1) := by decide +kernel
theorem dX10_becomes_25 : decode cX10_becomes 25 = .ok (.getfield 35, 3) := by decide +kernel
theorem dX10_becomes_28 : decode cX10_becomes 28 = .ok (.invokevirtual 225, 3) := by decide +kernel
theorem dX10_becomes_31 : decode cX10_becomes 31 = .ok (.aload_n 0, 1) := by decide +kernel
theorem dX10_becomes_32 : decode cX10_becomes 32 = .ok (.invokevirtual 356, 3) := by decide +kernel
theorem dX10_becomes_35 : decode cX10_becomes 35 = .ok (.ireturn, 1) := by decide +kernel
theorem dX10_fromRank_0 : decode cX10_fromRank 0 = .ok (.aload_n 0, 1) := by decide +kernel
theorem dX10_fromRank_1 : decode cX10_fromRank 1 = .ok (.iload_n 1, 1) := by decide +kernel
theorem dX10_fromRank_2 : decode cX10_fromRank 2 = .ok (.iconst 0, 1) := by decide +kernel
theorem dX10_fromRank_3 : decode cX10_fromRank 3 = .ok (.aload_n 0, 1) := by decide +kernel
theorem dX10_fromRank_4 : decode cX10_fromRank 4 = .ok (.getfield 35, 3) := by decide +kernel
theorem dX10_fromRank_7 : decode cX10_fromRank 7 = .ok (.invokestatic 340, 3) := by decide +kernel
theorem dX10_fromRank_10 : decode cX10_fromRank 10 = .ok (.iconst 1, 1) := by decide +kernel
theorem dX10_fromRank_11 : decode cX10_fromRank 11 = .ok (.isub, 1) := by decide +kernel
theorem dX10_fromRank_12 : decode cX10_fromRank 12 = .ok (.invokestatic 153, 3) := by decide +kernel
theorem dX10_fromRank_15 : decode cX10_fromRank 15 = .ok (.ifCond .ne 7, 3) := by decide +kernel
theorem dX10_fromRank_18 : decode cX10_fromRank 18 = .ok (.iconst 1, 1) := by decide +kernel
theorem dX10_fromRank_19 : decode cX10_fromRank 19 = .ok (.goto 4, 3) := by decide +kernel
theorem dX10_fromRank_22 : decode cX10_fromRank 22 = .ok (.iconst 0, 1) := by decide +kernel
theorem dX10_fromRank_23 : decode cX10_fromRank 23 = .ok (.iconst 0, 1) := by decide +kernel
theorem dX10_fromRank_24 : decode cX10_fromRank 24 = .ok (.invokevirtual 286, 3) := by decide +kernel
theorem dX10_fromRank_27 : decode cX10_fromRank 27 = .ok (.ifCond .eq 7, 3) := by decide +kernel
theorem dX10_fromRank_30 : decode cX10_fromRank 30 = .ok (.iconst 0, 1) := by decide +kernel
theorem dX10_fromRank_31 : decode cX10_fromRank 31 = .ok (.goto 8, 3) := by decide +kernel
theorem dX10_fromRank_34 : decode cX10_fromRank 34 = .ok (.aload_n 0, 1) := by decide +kernel
theorem dX10_fromRank_35 : decode cX10_fromRank 35 = .ok (.iload_n 1, 1) := by decide +kernel
theorem dX10_fromRank_36 : decode cX10_fromRank 36 = .ok (.invokevirtual 359, 3) := by decide +kernel
theorem dX10_fromRank_39 : decode cX10_fromRank 39 = .ok (.ireturn, 1) := by decide +kernel
theorem dX10_nextTree_0 : decode cX10_nextTree 0 = .ok (.aload_n 0, 1) := by decide +kernel
theorem dX10_nextTree_1 : decode cX10_nextTree 1 = .ok (.iconst 0, 1) := by decide +kernel
theorem dX10_nextTree_2 : decode cX10_nextTree 2 = .ok (.putfield 1, 3) := by decide +kernel
theorem dX10_nextTree_5 : decode cX10_nextTree 5 = .ok (.aload_n 0, 1) := by decide +kernel
theorem dX10_nextTree_6 : decode cX10_nextTree 6 = .ok (.invokevirtual 304, 3) := by decide +kernel
theorem dX10_nextTree_9 : decode cX10_nextTree 9 = .ok (.ifCond .eq 12, 3) := by decide +kernel
theorem dX10_nextTree_12 : decode cX10_nextTree 12 = .ok (.aload_n 0, 1) := by decide +kernel
theorem dX10_nextTree_13 : decode cX10_nextTree 13 = .ok (.invokevirtual 310, 3) := by decide +kernel
theorem dX10_nextTree_16 : decode cX10_nextTree 16 = .ok (.iconst 1, 1) := by decide +kernel
theorem dX10_nextTree_17 : decode cX10_nextTree 17 = .ok (.iadd, 1) := by decide +kernel
theorem dX10_nextTree_18 : decode cX10_nextTree 18 = .ok (.goto 10, 3) := by decide +kernel
theorem dX10_nextTree_21 : decode cX10_nextTree 21 = .ok (.aload_n 0, 1) := by decide +kernel
theorem dX10_nextTree_22 : decode cX10_nextTree 22 = .ok (.getfield 35, 3) := by decide +kernel
theorem dX10_nextTree_25 : decode cX10_nextTree 25 = .ok (.invokestatic 340, 3) := by decide +kernel
theorem dX10_nextTree_28 : decode cX10_nextTree 28 = .ok (.istore_n 1, 1) := by decide +kernel
theorem dX10_nextTree_29 : decode cX10_nextTree 29 = .ok (.iload_n 1, 1) := by decide +kernel
theorem dX10_nextTree_30 : decode cX10_nextTree 30 = .ok (.aload_n 0, 1) := by decide +kernel
theorem dX10_nextTree_31 : decode cX10_nextTree 31 = .ok (.getfield 35, 3) := by decide +kernel
theorem dX10_nextTree_34 : decode cX10_nextTree 34 = .ok (.invokestatic 340, 3) := by decide +kernel
theorem dX10_nextTree_37 : decode cX10_nextTree 37 = .ok (.if_icmp .ne 11, 3) := by decide +kernel
theorem dX10_nextTree_40 : decode cX10_nextTree 40 = .ok (.aload_n 0, 1) := by decide +kernel
theorem dX10_nextTree_41 : decode cX10_nextTree 41 = .ok (.bipush 8, 2) := by decide +kernel
theorem dX10_nextTree_43 : decode cX10_nextTree 43 = .ok (.iconst (-1), 1) := by decide +kernel
theorem dX10_nextTree_44 : decode cX10_nextTree 44 = .ok (.invokevirtual 347, 3) := by decide +kernel
theorem dX10_nextTree_47 : decode cX10_nextTree 47 = .ok (.ireturn, 1) := by decide +kernel
theorem dX10_nextTree_48 : decode cX10_nextTree 48 = .ok (.aload_n 0, 1) := by decide +kernel
theorem dX10_nextTree_49 : decode cX10_nextTree 49 = .ok (.iload_n 1, 1) := by decide +kernel
theorem dX10_nextTree_50 : decode cX10_nextTree 50 = .ok (.invokevirtual 359, 3) := by decide +kernel
theorem dX10_nextTree_53 : decode cX10_nextTree 53 = .ok (.istore_n 2, 1) := by decide +kernel
theorem dX10_nextTree_54 : decode cX10_nextTree 54 = .ok (.iload_n 1, 1) := by decide +kernel
theorem dX10_nextTree_55 : decode cX10_nextTree 55 = .ok (.ireturn, 1) := by decide +kernel
theorem dX10_keep_0 : decode cX10_keep 0 = .ok (.aload_n 0, 1) := by decide +kernel
theorem dX10_keep_1 : decode cX10_keep 1 = .ok (.iload_n 1, 1) := by decide +kernel
theorem dX10_keep_2 : decode cX10_keep 2 = .ok (.iconst 0, 1) := by decide +kernel
theorem dX10_keep_3 : decode cX10_keep 3 = .ok (.iconst 2, 1) := by decide +kernel
theorem dX10_keep_4 : decode cX10_keep 4 = .ok (.invokestatic 153, 3) := by decide +kernel
theorem dX10_keep_7 : decode cX10_keep 7 = .ok (.ifCond .ne 7, 3) := by decide +kernel
theorem dX10_keep_10 : decode cX10_keep 10 = .ok (.iconst 1, 1) := by decide +kernel
theorem dX10_keep_11 : decode cX10_keep 11 = .ok (.goto 4, 3) := by decide +kernel
theorem dX10_keep_14 : decode cX10_keep 14 = .ok (.iconst 0, 1) := by decide +kernel
theorem dX10_keep_15 : decode cX10_keep 15 = .ok (.iconst 0, 1) := by decide +kernel
theorem dX10_keep_16 : decode cX10_keep 16 = .ok (.invokevirtual 286, 3) := by decide +kernel
theorem dX10_keep_19 : decode cX10_keep 19 = .ok (.ifCond .eq 5, 3) := by decide +kernel
theorem dX10_keep_22 : decode cX10_keep 22 = .ok (.iconst 0, 1) := by decide +kernel
theorem dX10_keep_23 : decode cX10_keep 23 = .ok (.ireturn, 1) := by decide +kernel
theorem dX10_keep_24 : decode cX10_keep 24 = .ok (.aload_n 0, 1) := by decide +kernel
theorem dX10_keep_25 : decode cX10_keep 25 = .ok (.getfield 262, 3) := by decide +kernel
theorem dX10_keep_28 : decode cX10_keep 28 = .ok (.iload_n 1, 1) := by decide +kernel
theorem dX10_keep_29 : decode cX10_keep 29 = .ok (.invokestatic 70, 3) := by decide +kernel
theorem dX10_keep_32 : decode cX10_keep 32 = .ok (.istore_n 2, 1) := by decide +kernel
theorem dX10_keep_33 : decode cX10_keep 33 = .ok (.aload_n 0, 1) := by decide +kernel
theorem dX10_keep_34 : decode cX10_keep 34 = .ok (.dup, 1) := by decide +kernel
theorem dX10_keep_35 : decode cX10_keep 35 = .ok (.getfield 262, 3) := by decide +kernel
theorem dX10_keep_38 : decode cX10_keep 38 = .ok (.iconst 1, 1) := by decide +kernel
theorem dX10_keep_39 : decode cX10_keep 39 = .ok (.iload_n 1, 1) := by decide +kernel
theorem dX10_keep_40 : decode cX10_keep 40 = .ok (.ishl, 1) := by decide +kernel
theorem dX10_keep_41 : decode cX10_keep 41 = .ok (.ior, 1) := by decide +kernel
theorem dX10_keep_42 : decode cX10_keep 42 = .ok (.putfield 262, 3) := by decide +kernel
theorem dX10_keep_45 : decode cX10_keep 45 = .ok (.iconst 0, 1) := by decide +kernel
theorem dX10_keep_46 : decode cX10_keep 46 = .ok (.istore_n 3, 1) := by decide +kernel
theorem dX10_keep_47 : decode cX10_keep 47 = .ok (.iload_n 3, 1) := by decide +kernel
theorem dX10_keep_48 : decode cX10_keep 48 = .ok (.bipush 20, 2) := by decide +kernel
theorem dX10_keep_50 : decode cX10_keep 50 = .ok (.if_icmp .ge 26, 3) := by decide +kernel
theorem dX10_keep_53 : decode cX10_keep 53 = .ok (.aload_n 0, 1) := by decide +kernel
theorem dX10_keep_54 : decode cX10_keep 54 = .ok (.getfield 29, 3) := by decide +kernel
theorem dX10_keep_57 : decode cX10_keep 57 = .ok (.bipush 20, 2) := by decide +kernel
theorem dX10_keep_59 : decode cX10_keep 59 = .ok (.iload_n 1, 1) := by decide +kernel
theorem dX10_keep_60 : decode cX10_keep 60 = .ok (.imul, 1) := by decide +kernel
theorem dX10_keep_61 : decode cX10_keep 61 = .ok (.iload_n 3, 1) := by decide +kernel
theorem dX10_keep_62 : decode cX10_keep 62 = .ok (.iadd, 1) := by decide +kernel
theorem dX10_keep_63 : decode cX10_keep 63 = .ok (.aload_n 0, 1) := by decide +kernel
theorem dX10_keep_64 : decode cX10_keep 64 = .ok (.getfield 19, 3) := by decide +kernel
theorem dX10_keep_67 : decode cX10_keep 67 = .ok (.iload_n 3, 1) := by decide +kernel
theorem dX10_keep_68 : decode cX10_keep 68 = .ok (.iaload, 1) := by decide +kernel
theorem dX10_keep_69 : decode cX10_keep 69 = .ok (.iastore, 1) := by decide +kernel
theorem dX10_keep_70 : decode cX10_keep 70 = .ok (.iinc 3 1, 3) := by decide +kernel
theorem dX10_keep_73 : decode cX10_keep 73 = .ok (.goto (-26), 3) := by decide +kernel
theorem dX10_keep_76 : decode cX10_keep 76 = .ok (.iload_n 2, 1) := by decide +kernel
theorem dX10_keep_77 : decode cX10_keep 77 = .ok (.ireturn, 1) := by decide +kernel
theorem dX10_restore_0 : decode cX10_restore 0 = .ok (.aload_n 0, 1) := by decide +kernel
theorem dX10_restore_1 : decode cX10_restore 1 = .ok (.iload_n 1, 1) := by decide +kernel
theorem dX10_restore_2 : decode cX10_restore 2 = .ok (.iconst 0, 1) := by decide +kernel
theorem dX10_restore_3 : decode cX10_restore 3 = .ok (.iconst 2, 1) := by decide +kernel
theorem dX10_restore_4 : decode cX10_restore 4 = .ok (.invokestatic 153, 3) := by decide +kernel
theorem dX10_restore_7 : decode cX10_restore 7 = .ok (.ifCond .ne 7, 3) := by decide +kernel
theorem dX10_restore_10 : decode cX10_restore 10 = .ok (.iconst 1, 1) := by decide +kernel
theorem dX10_restore_11 : decode cX10_restore 11 = .ok (.goto 4, 3) := by decide +kernel
theorem dX10_restore_14 : decode cX10_restore 14 = .ok (.iconst 0, 1) := by decide +kernel
theorem dX10_restore_15 : decode cX10_restore 15 = .ok (.iconst 0, 1) := by decide +kernel
theorem dX10_restore_16 : decode cX10_restore 16 = .ok (.invokevirtual 286, 3) := by decide +kernel
theorem dX10_restore_19 : decode cX10_restore 19 = .ok (.ifCond .eq 5, 3) := by decide +kernel
theorem dX10_restore_22 : decode cX10_restore 22 = .ok (.iconst 0, 1) := by decide +kernel
theorem dX10_restore_23 : decode cX10_restore 23 = .ok (.ireturn, 1) := by decide +kernel
theorem dX10_restore_24 : decode cX10_restore 24 = .ok (.aload_n 0, 1) := by decide +kernel
theorem dX10_restore_25 : decode cX10_restore 25 = .ok (.getfield 262, 3) := by decide +kernel
theorem dX10_restore_28 : decode cX10_restore 28 = .ok (.iload_n 1, 1) := by decide +kernel
theorem dX10_restore_29 : decode cX10_restore 29 = .ok (.invokestatic 70, 3) := by decide +kernel
theorem dX10_restore_32 : decode cX10_restore 32 = .ok (.ifCond .ne 16, 3) := by decide +kernel
theorem dX10_restore_35 : decode cX10_restore 35 = .ok (.aload_n 0, 1) := by decide +kernel
theorem dX10_restore_36 : decode cX10_restore 36 = .ok (.getfield 32, 3) := by decide +kernel
theorem dX10_restore_39 : decode cX10_restore 39 = .ok (.bipush 9, 2) := by decide +kernel
theorem dX10_restore_41 : decode cX10_restore 41 = .ok (.dup2, 1) := by decide +kernel
theorem dX10_restore_42 : decode cX10_restore 42 = .ok (.iaload, 1) := by decide +kernel
theorem dX10_restore_43 : decode cX10_restore 43 = .ok (.iconst 1, 1) := by decide +kernel
theorem dX10_restore_44 : decode cX10_restore 44 = .ok (.iadd, 1) := by decide +kernel
theorem dX10_restore_45 : decode cX10_restore 45 = .ok (.iastore, 1) := by decide +kernel
theorem dX10_restore_46 : decode cX10_restore 46 = .ok (.iconst 0, 1) := by decide +kernel
theorem dX10_restore_47 : decode cX10_restore 47 = .ok (.ireturn, 1) := by decide +kernel
theorem dX10_restore_48 : decode cX10_restore 48 = .ok (.aload_n 0, 1) := by decide +kernel
theorem dX10_restore_49 : decode cX10_restore 49 = .ok (.invokevirtual 350, 3) := by decide +kernel
theorem dX10_restore_52 : decode cX10_restore 52 = .ok (.iconst 0, 1) := by decide +kernel
theorem dX10_restore_53 : decode cX10_restore 53 = .ok (.istore_n 2, 1) := by decide +kernel
theorem dX10_restore_54 : decode cX10_restore 54 = .ok (.iload_n 2, 1) := by decide +kernel
theorem dX10_restore_55 : decode cX10_restore 55 = .ok (.bipush 20, 2) := by decide +kernel
theorem dX10_restore_57 : decode cX10_restore 57 = .ok (.if_icmp .ge 26, 3) := by decide +kernel
theorem dX10_restore_60 : decode cX10_restore 60 = .ok (.aload_n 0, 1) := by decide +kernel
theorem dX10_restore_61 : decode cX10_restore 61 = .ok (.getfield 19, 3) := by decide +kernel
theorem dX10_restore_64 : decode cX10_restore 64 = .ok (.iload_n 2, 1) := by decide +kernel
theorem dX10_restore_65 : decode cX10_restore 65 = .ok (.aload_n 0, 1) := by decide +kernel
theorem dX10_restore_66 : decode cX10_restore 66 = .ok (.getfield 29, 3) := by decide +kernel
theorem dX10_restore_69 : decode cX10_restore 69 = .ok (.bipush 20, 2) := by decide +kernel
theorem dX10_restore_71 : decode cX10_restore 71 = .ok (.iload_n 1, 1) := by decide +kernel
theorem dX10_restore_72 : decode cX10_restore 72 = .ok (.imul, 1) := by decide +kernel
theorem dX10_restore_73 : decode cX10_restore 73 = .ok (.iload_n 2, 1) := by decide +kernel
theorem dX10_restore_74 : decode cX10_restore 74 = .ok (.iadd, 1) := by decide +kernel
theorem dX10_restore_75 : decode cX10_restore 75 = .ok (.iaload, 1) := by decide +kernel
theorem dX10_restore_76 : decode cX10_restore 76 = .ok (.iastore, 1) := by decide +kernel
theorem dX10_restore_77 : decode cX10_restore 77 = .ok (.iinc 2 1, 3) := by decide +kernel
theorem dX10_restore_80 : decode cX10_restore 80 = .ok (.goto (-26), 3) := by decide +kernel
theorem dX10_restore_83 : decode cX10_restore 83 = .ok (.iconst 1, 1) := by decide +kernel
theorem dX10_restore_84 : decode cX10_restore 84 = .ok (.ireturn, 1) := by decide +kernel
theorem dX10_account_0 : decode cX10_account 0 = .ok (.aload_n 0, 1) := by decide +kernel
theorem dX10_account_1 : decode cX10_account 1 = .ok (.iload_n 1, 1) := by decide +kernel
theorem dX10_account_2 : decode cX10_account 2 = .ok (.iconst 0, 1) := by decide +kernel
theorem dX10_account_3 : decode cX10_account 3 = .ok (.bipush 9, 2) := by decide +kernel
theorem dX10_account_5 : decode cX10_account 5 = .ok (.invokestatic 153, 3) := by decide +kernel
theorem dX10_account_8 : decode cX10_account 8 = .ok (.ifCond .ne 7, 3) := by decide +kernel
theorem dX10_account_11 : decode cX10_account 11 = .ok (.iconst 1, 1) := by decide +kernel
theorem dX10_account_12 : decode cX10_account 12 = .ok (.goto 4, 3) := by decide +kernel
theorem dX10_account_15 : decode cX10_account 15 = .ok (.iconst 0, 1) := by decide +kernel
theorem dX10_account_16 : decode cX10_account 16 = .ok (.iconst 0, 1) := by decide +kernel
theorem dX10_account_17 : decode cX10_account 17 = .ok (.invokevirtual 286, 3) := by decide +kernel
theorem dX10_account_20 : decode cX10_account 20 = .ok (.ifCond .eq 7, 3) := by decide +kernel
theorem dX10_account_23 : decode cX10_account 23 = .ok (.iconst 0, 1) := by decide +kernel
theorem dX10_account_24 : decode cX10_account 24 = .ok (.goto 9, 3) := by decide +kernel
theorem dX10_account_27 : decode cX10_account 27 = .ok (.aload_n 0, 1) := by decide +kernel
theorem dX10_account_28 : decode cX10_account 28 = .ok (.getfield 32, 3) := by decide +kernel
theorem dX10_account_31 : decode cX10_account 31 = .ok (.iload_n 1, 1) := by decide +kernel
theorem dX10_account_32 : decode cX10_account 32 = .ok (.iaload, 1) := by decide +kernel
theorem dX10_account_33 : decode cX10_account 33 = .ok (.ireturn, 1) := by decide +kernel
