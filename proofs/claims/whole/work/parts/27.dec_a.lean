theorem dX0_init_0 : decode cX0_init 0 = .ok (.aload_n 0, 1) := by decide +kernel
theorem dX0_init_1 : decode cX0_init 1 = .ok (.invokespecial 3, 3) := by decide +kernel
theorem dX0_init_4 : decode cX0_init 4 = .ok (.aload_n 0, 1) := by decide +kernel
theorem dX0_init_5 : decode cX0_init 5 = .ok (.sipush 400, 3) := by decide +kernel
theorem dX0_init_8 : decode cX0_init 8 = .ok (.newarray .byte, 2) := by decide +kernel
theorem dX0_init_10 : decode cX0_init 10 = .ok (.putfield 9, 3) := by decide +kernel
theorem dX0_init_13 : decode cX0_init 13 = .ok (.return_, 1) := by decide +kernel
theorem dX0_at_0 : decode cX0_at 0 = .ok (.iload_n 1, 1) := by decide +kernel
theorem dX0_at_1 : decode cX0_at 1 = .ok (.ifCond .lt 20, 3) := by decide +kernel
theorem dX0_at_4 : decode cX0_at 4 = .ok (.iload_n 1, 1) := by decide +kernel
theorem dX0_at_5 : decode cX0_at 5 = .ok (.aload_n 0, 1) := by decide +kernel
theorem dX0_at_6 : decode cX0_at 6 = .ok (.getfield 15, 3) := by decide +kernel
theorem dX0_at_9 : decode cX0_at 9 = .ok (.if_icmp .ge 12, 3) := by decide +kernel
theorem dX0_at_12 : decode cX0_at 12 = .ok (.aload_n 0, 1) := by decide +kernel
theorem dX0_at_13 : decode cX0_at 13 = .ok (.getfield 9, 3) := by decide +kernel
theorem dX0_at_16 : decode cX0_at 16 = .ok (.iload_n 1, 1) := by decide +kernel
theorem dX0_at_17 : decode cX0_at 17 = .ok (.baload, 1) := by decide +kernel
theorem dX0_at_18 : decode cX0_at 18 = .ok (.goto 4, 3) := by decide +kernel
theorem dX0_at_21 : decode cX0_at 21 = .ok (.iconst (-1), 1) := by decide +kernel
theorem dX0_at_22 : decode cX0_at 22 = .ok (.ireturn, 1) := by decide +kernel
theorem dX0_shorten_0 : decode cX0_shorten 0 = .ok (.iload_n 1, 1) := by decide +kernel
theorem dX0_shorten_1 : decode cX0_shorten 1 = .ok (.ifCond .lt 11, 3) := by decide +kernel
theorem dX0_shorten_4 : decode cX0_shorten 4 = .ok (.iload_n 1, 1) := by decide +kernel
theorem dX0_shorten_5 : decode cX0_shorten 5 = .ok (.aload_n 0, 1) := by decide +kernel
theorem dX0_shorten_6 : decode cX0_shorten 6 = .ok (.getfield 15, 3) := by decide +kernel
theorem dX0_shorten_9 : decode cX0_shorten 9 = .ok (.if_icmp .le 5, 3) := by decide +kernel
theorem dX0_shorten_12 : decode cX0_shorten 12 = .ok (.iconst 0, 1) := by decide +kernel
theorem dX0_shorten_13 : decode cX0_shorten 13 = .ok (.ireturn, 1) := by decide +kernel
theorem dX0_shorten_14 : decode cX0_shorten 14 = .ok (.aload_n 0, 1) := by decide +kernel
theorem dX0_shorten_15 : decode cX0_shorten 15 = .ok (.iload_n 1, 1) := by decide +kernel
theorem dX0_shorten_16 : decode cX0_shorten 16 = .ok (.putfield 15, 3) := by decide +kernel
theorem dX0_shorten_19 : decode cX0_shorten 19 = .ok (.iconst 1, 1) := by decide +kernel
theorem dX0_shorten_20 : decode cX0_shorten 20 = .ok (.ireturn, 1) := by decide +kernel
theorem dX0_put_0 : decode cX0_put 0 = .ok (.aload_n 0, 1) := by decide +kernel
theorem dX0_put_1 : decode cX0_put 1 = .ok (.getfield 15, 3) := by decide +kernel
theorem dX0_put_4 : decode cX0_put 4 = .ok (.sipush 400, 3) := by decide +kernel
theorem dX0_put_7 : decode cX0_put 7 = .ok (.if_icmp .ge 24, 3) := by decide +kernel
theorem dX0_put_10 : decode cX0_put 10 = .ok (.aload_n 0, 1) := by decide +kernel
theorem dX0_put_11 : decode cX0_put 11 = .ok (.getfield 9, 3) := by decide +kernel
theorem dX0_put_14 : decode cX0_put 14 = .ok (.aload_n 0, 1) := by decide +kernel
theorem dX0_put_15 : decode cX0_put 15 = .ok (.getfield 15, 3) := by decide +kernel
theorem dX0_put_18 : decode cX0_put 18 = .ok (.iload_n 1, 1) := by decide +kernel
theorem dX0_put_19 : decode cX0_put 19 = .ok (.i2b, 1) := by decide +kernel
theorem dX0_put_20 : decode cX0_put 20 = .ok (.bastore, 1) := by decide +kernel
theorem dX0_put_21 : decode cX0_put 21 = .ok (.aload_n 0, 1) := by decide +kernel
theorem dX0_put_22 : decode cX0_put 22 = .ok (.dup, 1) := by decide +kernel
theorem dX0_put_23 : decode cX0_put 23 = .ok (.getfield 15, 3) := by decide +kernel
theorem dX0_put_26 : decode cX0_put 26 = .ok (.iconst 1, 1) := by decide +kernel
theorem dX0_put_27 : decode cX0_put 27 = .ok (.iadd, 1) := by decide +kernel
theorem dX0_put_28 : decode cX0_put 28 = .ok (.putfield 15, 3) := by decide +kernel
theorem dX0_put_31 : decode cX0_put 31 = .ok (.return_, 1) := by decide +kernel
theorem dX0_putFour_0 : decode cX0_putFour 0 = .ok (.aload_n 0, 1) := by decide +kernel
theorem dX0_putFour_1 : decode cX0_putFour 1 = .ok (.iload_n 1, 1) := by decide +kernel
theorem dX0_putFour_2 : decode cX0_putFour 2 = .ok (.bipush 24, 2) := by decide +kernel
theorem dX0_putFour_4 : decode cX0_putFour 4 = .ok (.ishr, 1) := by decide +kernel
theorem dX0_putFour_5 : decode cX0_putFour 5 = .ok (.invokevirtual 19, 3) := by decide +kernel
theorem dX0_putFour_8 : decode cX0_putFour 8 = .ok (.aload_n 0, 1) := by decide +kernel
theorem dX0_putFour_9 : decode cX0_putFour 9 = .ok (.iload_n 1, 1) := by decide +kernel
theorem dX0_putFour_10 : decode cX0_putFour 10 = .ok (.bipush 16, 2) := by decide +kernel
theorem dX0_putFour_12 : decode cX0_putFour 12 = .ok (.ishr, 1) := by decide +kernel
theorem dX0_putFour_13 : decode cX0_putFour 13 = .ok (.invokevirtual 19, 3) := by decide +kernel
theorem dX0_putFour_16 : decode cX0_putFour 16 = .ok (.aload_n 0, 1) := by decide +kernel
theorem dX0_putFour_17 : decode cX0_putFour 17 = .ok (.iload_n 1, 1) := by decide +kernel
theorem dX0_putFour_18 : decode cX0_putFour 18 = .ok (.bipush 8, 2) := by decide +kernel
theorem dX0_putFour_20 : decode cX0_putFour 20 = .ok (.ishr, 1) := by decide +kernel
theorem dX0_putFour_21 : decode cX0_putFour 21 = .ok (.invokevirtual 19, 3) := by decide +kernel
theorem dX0_putFour_24 : decode cX0_putFour 24 = .ok (.aload_n 0, 1) := by decide +kernel
theorem dX0_putFour_25 : decode cX0_putFour 25 = .ok (.iload_n 1, 1) := by decide +kernel
theorem dX0_putFour_26 : decode cX0_putFour 26 = .ok (.invokevirtual 19, 3) := by decide +kernel
theorem dX0_putFour_29 : decode cX0_putFour 29 = .ok (.return_, 1) := by decide +kernel
theorem dX0_putStatement_0 : decode cX0_putStatement 0 = .ok (.iconst 0, 1) := by decide +kernel
theorem dX0_putStatement_1 : decode cX0_putStatement 1 = .ok (.istore 4, 2) := by decide +kernel
theorem dX0_putStatement_3 : decode cX0_putStatement 3 = .ok (.iload 4, 2) := by decide +kernel
theorem dX0_putStatement_5 : decode cX0_putStatement 5 = .ok (.aload_n 1, 1) := by decide +kernel
theorem dX0_putStatement_6 : decode cX0_putStatement 6 = .ok (.invokevirtual 23, 3) := by decide +kernel
theorem dX0_putStatement_9 : decode cX0_putStatement 9 = .ok (.if_icmp .ge 19, 3) := by decide +kernel
theorem dX0_putStatement_12 : decode cX0_putStatement 12 = .ok (.aload_n 0, 1) := by decide +kernel
theorem dX0_putStatement_13 : decode cX0_putStatement 13 = .ok (.aload_n 1, 1) := by decide +kernel
theorem dX0_putStatement_14 : decode cX0_putStatement 14 = .ok (.iload 4, 2) := by decide +kernel
theorem dX0_putStatement_16 : decode cX0_putStatement 16 = .ok (.invokevirtual 28, 3) := by decide +kernel
theorem dX0_putStatement_19 : decode cX0_putStatement 19 = .ok (.invokevirtual 19, 3) := by decide +kernel
theorem dX0_putStatement_22 : decode cX0_putStatement 22 = .ok (.iinc 4 1, 3) := by decide +kernel
theorem dX0_putStatement_25 : decode cX0_putStatement 25 = .ok (.goto (-22), 3) := by decide +kernel
theorem dX0_putStatement_28 : decode cX0_putStatement 28 = .ok (.aload_n 0, 1) := by decide +kernel
theorem dX0_putStatement_29 : decode cX0_putStatement 29 = .ok (.iload_n 2, 1) := by decide +kernel
theorem dX0_putStatement_30 : decode cX0_putStatement 30 = .ok (.invokevirtual 32, 3) := by decide +kernel
theorem dX0_putStatement_33 : decode cX0_putStatement 33 = .ok (.iload_n 3, 1) := by decide +kernel
theorem dX0_putStatement_34 : decode cX0_putStatement 34 = .ok (.iconst (-1), 1) := by decide +kernel
theorem dX0_putStatement_35 : decode cX0_putStatement 35 = .ok (.if_icmp .eq 8, 3) := by decide +kernel
theorem dX0_putStatement_38 : decode cX0_putStatement 38 = .ok (.aload_n 0, 1) := by decide +kernel
theorem dX0_putStatement_39 : decode cX0_putStatement 39 = .ok (.iload_n 3, 1) := by decide +kernel
theorem dX0_putStatement_40 : decode cX0_putStatement 40 = .ok (.invokevirtual 32, 3) := by decide +kernel
theorem dX0_putStatement_43 : decode cX0_putStatement 43 = .ok (.aload_n 0, 1) := by decide +kernel
theorem dX0_putStatement_44 : decode cX0_putStatement 44 = .ok (.bipush 59, 2) := by decide +kernel
theorem dX0_putStatement_46 : decode cX0_putStatement 46 = .ok (.invokevirtual 19, 3) := by decide +kernel
theorem dX0_putStatement_49 : decode cX0_putStatement 49 = .ok (.return_, 1) := by decide +kernel
theorem dX0_putNumber_0 : decode cX0_putNumber 0 = .ok (.aload_n 0, 1) := by decide +kernel
theorem dX0_putNumber_1 : decode cX0_putNumber 1 = .ok (.bipush 32, 2) := by decide +kernel
theorem dX0_putNumber_3 : decode cX0_putNumber 3 = .ok (.invokevirtual 19, 3) := by decide +kernel
theorem dX0_putNumber_6 : decode cX0_putNumber 6 = .ok (.iload_n 1, 1) := by decide +kernel
theorem dX0_putNumber_7 : decode cX0_putNumber 7 = .ok (.bipush 9, 2) := by decide +kernel
theorem dX0_putNumber_9 : decode cX0_putNumber 9 = .ok (.if_icmp .le 14, 3) := by decide +kernel
theorem dX0_putNumber_12 : decode cX0_putNumber 12 = .ok (.aload_n 0, 1) := by decide +kernel
theorem dX0_putNumber_13 : decode cX0_putNumber 13 = .ok (.bipush 48, 2) := by decide +kernel
theorem dX0_putNumber_15 : decode cX0_putNumber 15 = .ok (.iload_n 1, 1) := by decide +kernel
theorem dX0_putNumber_16 : decode cX0_putNumber 16 = .ok (.bipush 10, 2) := by decide +kernel
theorem dX0_putNumber_18 : decode cX0_putNumber 18 = .ok (.idiv, 1) := by decide +kernel
theorem dX0_putNumber_19 : decode cX0_putNumber 19 = .ok (.iadd, 1) := by decide +kernel
theorem dX0_putNumber_20 : decode cX0_putNumber 20 = .ok (.invokevirtual 19, 3) := by decide +kernel
theorem dX0_putNumber_23 : decode cX0_putNumber 23 = .ok (.aload_n 0, 1) := by decide +kernel
theorem dX0_putNumber_24 : decode cX0_putNumber 24 = .ok (.bipush 48, 2) := by decide +kernel
theorem dX0_putNumber_26 : decode cX0_putNumber 26 = .ok (.iload_n 1, 1) := by decide +kernel
theorem dX0_putNumber_27 : decode cX0_putNumber 27 = .ok (.bipush 10, 2) := by decide +kernel
theorem dX0_putNumber_29 : decode cX0_putNumber 29 = .ok (.irem, 1) := by decide +kernel
theorem dX0_putNumber_30 : decode cX0_putNumber 30 = .ok (.iadd, 1) := by decide +kernel
theorem dX0_putNumber_31 : decode cX0_putNumber 31 = .ok (.invokevirtual 19, 3) := by decide +kernel
theorem dX0_putNumber_34 : decode cX0_putNumber 34 = .ok (.return_, 1) := by decide +kernel
theorem dX1_init_0 : decode cX1_init 0 = .ok (.aload_n 0, 1) := by decide +kernel
theorem dX1_init_1 : decode cX1_init 1 = .ok (.invokespecial 3, 3) := by decide +kernel
theorem dX1_init_4 : decode cX1_init 4 = .ok (.aload_n 0, 1) := by decide +kernel
theorem dX1_init_5 : decode cX1_init 5 = .ok (.bipush 10, 2) := by decide +kernel
theorem dX1_init_7 : decode cX1_init 7 = .ok (.newarray .int, 2) := by decide +kernel
theorem dX1_init_9 : decode cX1_init 9 = .ok (.putfield 9, 3) := by decide +kernel
theorem dX1_init_12 : decode cX1_init 12 = .ok (.return_, 1) := by decide +kernel
theorem dX1_number_0 : decode cX1_number 0 = .ok (.iload_n 1, 1) := by decide +kernel
theorem dX1_number_1 : decode cX1_number 1 = .ok (.ifCond .lt 18, 3) := by decide +kernel
theorem dX1_number_4 : decode cX1_number 4 = .ok (.iload_n 1, 1) := by decide +kernel
theorem dX1_number_5 : decode cX1_number 5 = .ok (.bipush 10, 2) := by decide +kernel
theorem dX1_number_7 : decode cX1_number 7 = .ok (.if_icmp .ge 12, 3) := by decide +kernel
theorem dX1_number_10 : decode cX1_number 10 = .ok (.aload_n 0, 1) := by decide +kernel
theorem dX1_number_11 : decode cX1_number 11 = .ok (.getfield 9, 3) := by decide +kernel
theorem dX1_number_14 : decode cX1_number 14 = .ok (.iload_n 1, 1) := by decide +kernel
theorem dX1_number_15 : decode cX1_number 15 = .ok (.iaload, 1) := by decide +kernel
theorem dX1_number_16 : decode cX1_number 16 = .ok (.goto 4, 3) := by decide +kernel
theorem dX1_number_19 : decode cX1_number 19 = .ok (.iconst (-1), 1) := by decide +kernel
theorem dX1_number_20 : decode cX1_number 20 = .ok (.ireturn, 1) := by decide +kernel
theorem dX1_setNumber_0 : decode cX1_setNumber 0 = .ok (.iload_n 1, 1) := by decide +kernel
theorem dX1_setNumber_1 : decode cX1_setNumber 1 = .ok (.ifCond .lt 16, 3) := by decide +kernel
theorem dX1_setNumber_4 : decode cX1_setNumber 4 = .ok (.iload_n 1, 1) := by decide +kernel
theorem dX1_setNumber_5 : decode cX1_setNumber 5 = .ok (.bipush 10, 2) := by decide +kernel
theorem dX1_setNumber_7 : decode cX1_setNumber 7 = .ok (.if_icmp .ge 10, 3) := by decide +kernel
theorem dX1_setNumber_10 : decode cX1_setNumber 10 = .ok (.aload_n 0, 1) := by decide +kernel
theorem dX1_setNumber_11 : decode cX1_setNumber 11 = .ok (.getfield 9, 3) := by decide +kernel
theorem dX1_setNumber_14 : decode cX1_setNumber 14 = .ok (.iload_n 1, 1) := by decide +kernel
theorem dX1_setNumber_15 : decode cX1_setNumber 15 = .ok (.iload_n 2, 1) := by decide +kernel
theorem dX1_setNumber_16 : decode cX1_setNumber 16 = .ok (.iastore, 1) := by decide +kernel
theorem dX1_setNumber_17 : decode cX1_setNumber 17 = .ok (.return_, 1) := by decide +kernel
theorem dX1_take_0 : decode cX1_take 0 = .ok (.aload_n 1, 1) := by decide +kernel
theorem dX1_take_1 : decode cX1_take 1 = .ok (.invokevirtual 15, 3) := by decide +kernel
theorem dX1_take_4 : decode cX1_take 4 = .ok (.istore_n 2, 1) := by decide +kernel
theorem dX1_take_5 : decode cX1_take 5 = .ok (.iconst 0, 1) := by decide +kernel
theorem dX1_take_6 : decode cX1_take 6 = .ok (.istore_n 3, 1) := by decide +kernel
theorem dX1_take_7 : decode cX1_take 7 = .ok (.iload_n 3, 1) := by decide +kernel
theorem dX1_take_8 : decode cX1_take 8 = .ok (.aload_n 1, 1) := by decide +kernel
theorem dX1_take_9 : decode cX1_take 9 = .ok (.getfield 21, 3) := by decide +kernel
theorem dX1_take_12 : decode cX1_take 12 = .ok (.invokestatic 25, 3) := by decide +kernel
theorem dX1_take_15 : decode cX1_take 15 = .ok (.if_icmp .ge 39, 3) := by decide +kernel
theorem dX1_take_18 : decode cX1_take 18 = .ok (.aload_n 1, 1) := by decide +kernel
theorem dX1_take_19 : decode cX1_take 19 = .ok (.iload_n 2, 1) := by decide +kernel
theorem dX1_take_20 : decode cX1_take 20 = .ok (.invokestatic 29, 3) := by decide +kernel
theorem dX1_take_23 : decode cX1_take 23 = .ok (.istore 4, 2) := by decide +kernel
theorem dX1_take_25 : decode cX1_take 25 = .ok (.aload_n 0, 1) := by decide +kernel
theorem dX1_take_26 : decode cX1_take 26 = .ok (.iload_n 3, 1) := by decide +kernel
theorem dX1_take_27 : decode cX1_take 27 = .ok (.aload_n 1, 1) := by decide +kernel
theorem dX1_take_28 : decode cX1_take 28 = .ok (.iload 4, 2) := by decide +kernel
theorem dX1_take_30 : decode cX1_take 30 = .ok (.invokevirtual 33, 3) := by decide +kernel
theorem dX1_take_33 : decode cX1_take 33 = .ok (.iload_n 2, 1) := by decide +kernel
theorem dX1_take_34 : decode cX1_take 34 = .ok (.iand, 1) := by decide +kernel
theorem dX1_take_35 : decode cX1_take 35 = .ok (.invokestatic 36, 3) := by decide +kernel
theorem dX1_take_38 : decode cX1_take 38 = .ok (.invokevirtual 39, 3) := by decide +kernel
theorem dX1_take_41 : decode cX1_take 41 = .ok (.iload_n 2, 1) := by decide +kernel
theorem dX1_take_42 : decode cX1_take 42 = .ok (.iload 4, 2) := by decide +kernel
theorem dX1_take_44 : decode cX1_take 44 = .ok (.invokestatic 43, 3) := by decide +kernel
theorem dX1_take_47 : decode cX1_take 47 = .ok (.istore_n 2, 1) := by decide +kernel
theorem dX1_take_48 : decode cX1_take 48 = .ok (.iinc 3 1, 3) := by decide +kernel
theorem dX1_take_51 : decode cX1_take 51 = .ok (.goto (-44), 3) := by decide +kernel
theorem dX1_take_54 : decode cX1_take 54 = .ok (.return_, 1) := by decide +kernel
theorem dX1_lowestLeaf_0 : decode cX1_lowestLeaf 0 = .ok (.iconst 0, 1) := by decide +kernel
theorem dX1_lowestLeaf_1 : decode cX1_lowestLeaf 1 = .ok (.istore_n 2, 1) := by decide +kernel
theorem dX1_lowestLeaf_2 : decode cX1_lowestLeaf 2 = .ok (.iload_n 2, 1) := by decide +kernel
theorem dX1_lowestLeaf_3 : decode cX1_lowestLeaf 3 = .ok (.aload_n 0, 1) := by decide +kernel
theorem dX1_lowestLeaf_4 : decode cX1_lowestLeaf 4 = .ok (.getfield 21, 3) := by decide +kernel
theorem dX1_lowestLeaf_7 : decode cX1_lowestLeaf 7 = .ok (.if_icmp .ge 33, 3) := by decide +kernel
theorem dX1_lowestLeaf_10 : decode cX1_lowestLeaf 10 = .ok (.iload_n 1, 1) := by decide +kernel
theorem dX1_lowestLeaf_11 : decode cX1_lowestLeaf 11 = .ok (.iload_n 2, 1) := by decide +kernel
theorem dX1_lowestLeaf_12 : decode cX1_lowestLeaf 12 = .ok (.invokestatic 47, 3) := by decide +kernel
theorem dX1_lowestLeaf_15 : decode cX1_lowestLeaf 15 = .ok (.ifCond .eq 19, 3) := by decide +kernel
theorem dX1_lowestLeaf_18 : decode cX1_lowestLeaf 18 = .ok (.aload_n 0, 1) := by decide +kernel
theorem dX1_lowestLeaf_19 : decode cX1_lowestLeaf 19 = .ok (.iload_n 2, 1) := by decide +kernel
theorem dX1_lowestLeaf_20 : decode cX1_lowestLeaf 20 = .ok (.invokevirtual 33, 3) := by decide +kernel
theorem dX1_lowestLeaf_23 : decode cX1_lowestLeaf 23 = .ok (.iload_n 1, 1) := by decide +kernel
theorem dX1_lowestLeaf_24 : decode cX1_lowestLeaf 24 = .ok (.iand, 1) := by decide +kernel
theorem dX1_lowestLeaf_25 : decode cX1_lowestLeaf 25 = .ok (.invokestatic 51, 3) := by decide +kernel
theorem dX1_lowestLeaf_28 : decode cX1_lowestLeaf 28 = .ok (.iconst 1, 1) := by decide +kernel
theorem dX1_lowestLeaf_29 : decode cX1_lowestLeaf 29 = .ok (.if_icmp .ne 5, 3) := by decide +kernel
theorem dX1_lowestLeaf_32 : decode cX1_lowestLeaf 32 = .ok (.iload_n 2, 1) := by decide +kernel
theorem dX1_lowestLeaf_33 : decode cX1_lowestLeaf 33 = .ok (.ireturn, 1) := by decide +kernel
theorem dX1_lowestLeaf_34 : decode cX1_lowestLeaf 34 = .ok (.iinc 2 1, 3) := by decide +kernel
theorem dX1_lowestLeaf_37 : decode cX1_lowestLeaf 37 = .ok (.goto (-35), 3) := by decide +kernel
theorem dX1_lowestLeaf_40 : decode cX1_lowestLeaf 40 = .ok (.iconst (-1), 1) := by decide +kernel
theorem dX1_lowestLeaf_41 : decode cX1_lowestLeaf 41 = .ok (.ireturn, 1) := by decide +kernel
theorem dX1_rankOf_0 : decode cX1_rankOf 0 = .ok (.aload_n 0, 1) := by decide +kernel
theorem dX1_rankOf_1 : decode cX1_rankOf 1 = .ok (.aload_n 1, 1) := by decide +kernel
theorem dX1_rankOf_2 : decode cX1_rankOf 2 = .ok (.invokevirtual 56, 3) := by decide +kernel
theorem dX1_rankOf_5 : decode cX1_rankOf 5 = .ok (.iconst 0, 1) := by decide +kernel
theorem dX1_rankOf_6 : decode cX1_rankOf 6 = .ok (.istore_n 2, 1) := by decide +kernel
theorem dX1_rankOf_7 : decode cX1_rankOf 7 = .ok (.iconst 0, 1) := by decide +kernel
theorem dX1_rankOf_8 : decode cX1_rankOf 8 = .ok (.istore_n 3, 1) := by decide +kernel
theorem dX1_rankOf_9 : decode cX1_rankOf 9 = .ok (.iload_n 3, 1) := by decide +kernel
theorem dX1_rankOf_10 : decode cX1_rankOf 10 = .ok (.aload_n 1, 1) := by decide +kernel
theorem dX1_rankOf_11 : decode cX1_rankOf 11 = .ok (.getfield 21, 3) := by decide +kernel
theorem dX1_rankOf_14 : decode cX1_rankOf 14 = .ok (.invokestatic 25, 3) := by decide +kernel
theorem dX1_rankOf_17 : decode cX1_rankOf 17 = .ok (.if_icmp .ge 22, 3) := by decide +kernel
theorem dX1_rankOf_20 : decode cX1_rankOf 20 = .ok (.iload_n 2, 1) := by decide +kernel
theorem dX1_rankOf_21 : decode cX1_rankOf 21 = .ok (.aload_n 1, 1) := by decide +kernel
theorem dX1_rankOf_22 : decode cX1_rankOf 22 = .ok (.getfield 21, 3) := by decide +kernel
theorem dX1_rankOf_25 : decode cX1_rankOf 25 = .ok (.imul, 1) := by decide +kernel
theorem dX1_rankOf_26 : decode cX1_rankOf 26 = .ok (.aload_n 0, 1) := by decide +kernel
theorem dX1_rankOf_27 : decode cX1_rankOf 27 = .ok (.iload_n 3, 1) := by decide +kernel
theorem dX1_rankOf_28 : decode cX1_rankOf 28 = .ok (.invokevirtual 60, 3) := by decide +kernel
theorem dX1_rankOf_31 : decode cX1_rankOf 31 = .ok (.iadd, 1) := by decide +kernel
theorem dX1_rankOf_32 : decode cX1_rankOf 32 = .ok (.istore_n 2, 1) := by decide +kernel
theorem dX1_rankOf_33 : decode cX1_rankOf 33 = .ok (.iinc 3 1, 3) := by decide +kernel
theorem dX1_rankOf_36 : decode cX1_rankOf 36 = .ok (.goto (-27), 3) := by decide +kernel
theorem dX1_rankOf_39 : decode cX1_rankOf 39 = .ok (.iload_n 2, 1) := by decide +kernel
theorem dX1_rankOf_40 : decode cX1_rankOf 40 = .ok (.ireturn, 1) := by decide +kernel
theorem dX1_setRank_0 : decode cX1_setRank 0 = .ok (.iload_n 2, 1) := by decide +kernel
theorem dX1_setRank_1 : decode cX1_setRank 1 = .ok (.istore_n 3, 1) := by decide +kernel
theorem dX1_setRank_2 : decode cX1_setRank 2 = .ok (.iload_n 1, 1) := by decide +kernel
theorem dX1_setRank_3 : decode cX1_setRank 3 = .ok (.invokestatic 25, 3) := by decide +kernel
theorem dX1_setRank_6 : decode cX1_setRank 6 = .ok (.iconst 1, 1) := by decide +kernel
theorem dX1_setRank_7 : decode cX1_setRank 7 = .ok (.isub, 1) := by decide +kernel
theorem dX1_setRank_8 : decode cX1_setRank 8 = .ok (.istore 4, 2) := by decide +kernel
theorem dX1_setRank_10 : decode cX1_setRank 10 = .ok (.iload 4, 2) := by decide +kernel
theorem dX1_setRank_12 : decode cX1_setRank 12 = .ok (.ifCond .lt 26, 3) := by decide +kernel
theorem dX1_setRank_15 : decode cX1_setRank 15 = .ok (.iload_n 1, 1) := by decide +kernel
theorem dX1_setRank_16 : decode cX1_setRank 16 = .ok (.ifCond .le 22, 3) := by decide +kernel
theorem dX1_setRank_19 : decode cX1_setRank 19 = .ok (.aload_n 0, 1) := by decide +kernel
theorem dX1_setRank_20 : decode cX1_setRank 20 = .ok (.iload 4, 2) := by decide +kernel
theorem dX1_setRank_22 : decode cX1_setRank 22 = .ok (.iload_n 3, 1) := by decide +kernel
theorem dX1_setRank_23 : decode cX1_setRank 23 = .ok (.iload_n 1, 1) := by decide +kernel
theorem dX1_setRank_24 : decode cX1_setRank 24 = .ok (.irem, 1) := by decide +kernel
theorem dX1_setRank_25 : decode cX1_setRank 25 = .ok (.invokevirtual 39, 3) := by decide +kernel
theorem dX1_setRank_28 : decode cX1_setRank 28 = .ok (.iload_n 3, 1) := by decide +kernel
theorem dX1_setRank_29 : decode cX1_setRank 29 = .ok (.iload_n 1, 1) := by decide +kernel
theorem dX1_setRank_30 : decode cX1_setRank 30 = .ok (.idiv, 1) := by decide +kernel
theorem dX1_setRank_31 : decode cX1_setRank 31 = .ok (.istore_n 3, 1) := by decide +kernel
theorem dX1_setRank_32 : decode cX1_setRank 32 = .ok (.iinc 4 (-1), 3) := by decide +kernel
theorem dX1_setRank_35 : decode cX1_setRank 35 = .ok (.goto (-25), 3) := by decide +kernel
theorem dX1_setRank_38 : decode cX1_setRank 38 = .ok (.return_, 1) := by decide +kernel
theorem dX1_plant_0 : decode cX1_plant 0 = .ok (.aload_n 1, 1) := by decide +kernel
theorem dX1_plant_1 : decode cX1_plant 1 = .ok (.invokevirtual 63, 3) := by decide +kernel
theorem dX1_plant_4 : decode cX1_plant 4 = .ok (.aload_n 1, 1) := by decide +kernel
theorem dX1_plant_5 : decode cX1_plant 5 = .ok (.invokevirtual 15, 3) := by decide +kernel
theorem dX1_plant_8 : decode cX1_plant 8 = .ok (.istore_n 2, 1) := by decide +kernel
theorem dX1_plant_9 : decode cX1_plant 9 = .ok (.iconst 0, 1) := by decide +kernel
theorem dX1_plant_10 : decode cX1_plant 10 = .ok (.istore_n 3, 1) := by decide +kernel
theorem dX1_plant_11 : decode cX1_plant 11 = .ok (.iload_n 3, 1) := by decide +kernel
theorem dX1_plant_12 : decode cX1_plant 12 = .ok (.aload_n 1, 1) := by decide +kernel
theorem dX1_plant_13 : decode cX1_plant 13 = .ok (.getfield 21, 3) := by decide +kernel
theorem dX1_plant_16 : decode cX1_plant 16 = .ok (.invokestatic 25, 3) := by decide +kernel
theorem dX1_plant_19 : decode cX1_plant 19 = .ok (.if_icmp .ge 48, 3) := by decide +kernel
theorem dX1_plant_22 : decode cX1_plant 22 = .ok (.iload_n 2, 1) := by decide +kernel
theorem dX1_plant_23 : decode cX1_plant 23 = .ok (.aload_n 0, 1) := by decide +kernel
theorem dX1_plant_24 : decode cX1_plant 24 = .ok (.iload_n 3, 1) := by decide +kernel
theorem dX1_plant_25 : decode cX1_plant 25 = .ok (.aload_n 1, 1) := by decide +kernel
theorem dX1_plant_26 : decode cX1_plant 26 = .ok (.getfield 21, 3) := by decide +kernel
theorem dX1_plant_29 : decode cX1_plant 29 = .ok (.invokestatic 25, 3) := by decide +kernel
theorem dX1_plant_32 : decode cX1_plant 32 = .ok (.invokevirtual 66, 3) := by decide +kernel
theorem dX1_plant_35 : decode cX1_plant 35 = .ok (.iconst (-1), 1) := by decide +kernel
theorem dX1_plant_36 : decode cX1_plant 36 = .ok (.ixor, 1) := by decide +kernel
theorem dX1_plant_37 : decode cX1_plant 37 = .ok (.iand, 1) := by decide +kernel
theorem dX1_plant_38 : decode cX1_plant 38 = .ok (.invokestatic 36, 3) := by decide +kernel
theorem dX1_plant_41 : decode cX1_plant 41 = .ok (.istore 4, 2) := by decide +kernel
theorem dX1_plant_43 : decode cX1_plant 43 = .ok (.aload_n 1, 1) := by decide +kernel
theorem dX1_plant_44 : decode cX1_plant 44 = .ok (.iload 4, 2) := by decide +kernel
theorem dX1_plant_46 : decode cX1_plant 46 = .ok (.aload_n 0, 1) := by decide +kernel
theorem dX1_plant_47 : decode cX1_plant 47 = .ok (.iload_n 3, 1) := by decide +kernel
theorem dX1_plant_48 : decode cX1_plant 48 = .ok (.invokevirtual 60, 3) := by decide +kernel
theorem dX1_plant_51 : decode cX1_plant 51 = .ok (.invokevirtual 69, 3) := by decide +kernel
theorem dX1_plant_54 : decode cX1_plant 54 = .ok (.iload_n 2, 1) := by decide +kernel
theorem dX1_plant_55 : decode cX1_plant 55 = .ok (.iload 4, 2) := by decide +kernel
theorem dX1_plant_57 : decode cX1_plant 57 = .ok (.invokestatic 43, 3) := by decide +kernel
theorem dX1_plant_60 : decode cX1_plant 60 = .ok (.istore_n 2, 1) := by decide +kernel
theorem dX1_plant_61 : decode cX1_plant 61 = .ok (.iinc 3 1, 3) := by decide +kernel
theorem dX1_plant_64 : decode cX1_plant 64 = .ok (.goto (-53), 3) := by decide +kernel
theorem dX1_plant_67 : decode cX1_plant 67 = .ok (.iload_n 2, 1) := by decide +kernel
theorem dX1_plant_68 : decode cX1_plant 68 = .ok (.invokestatic 36, 3) := by decide +kernel
theorem dX1_plant_71 : decode cX1_plant 71 = .ok (.istore_n 3, 1) := by decide +kernel
theorem dX1_plant_72 : decode cX1_plant 72 = .ok (.aload_n 1, 1) := by decide +kernel
theorem dX1_plant_73 : decode cX1_plant 73 = .ok (.iload_n 3, 1) := by decide +kernel
theorem dX1_plant_74 : decode cX1_plant 74 = .ok (.iload_n 2, 1) := by decide +kernel
theorem dX1_plant_75 : decode cX1_plant 75 = .ok (.iload_n 3, 1) := by decide +kernel
theorem dX1_plant_76 : decode cX1_plant 76 = .ok (.invokestatic 43, 3) := by decide +kernel
theorem dX1_plant_79 : decode cX1_plant 79 = .ok (.invokestatic 36, 3) := by decide +kernel
theorem dX1_plant_82 : decode cX1_plant 82 = .ok (.invokevirtual 69, 3) := by decide +kernel
theorem dX1_plant_85 : decode cX1_plant 85 = .ok (.return_, 1) := by decide +kernel
theorem dX1_namedFrom_0 : decode cX1_namedFrom 0 = .ok (.iconst 0, 1) := by decide +kernel
theorem dX1_namedFrom_1 : decode cX1_namedFrom 1 = .ok (.istore_n 3, 1) := by decide +kernel
theorem dX1_namedFrom_2 : decode cX1_namedFrom 2 = .ok (.iload_n 1, 1) := by decide +kernel
theorem dX1_namedFrom_3 : decode cX1_namedFrom 3 = .ok (.istore 4, 2) := by decide +kernel
theorem dX1_namedFrom_5 : decode cX1_namedFrom 5 = .ok (.iload 4, 2) := by decide +kernel
theorem dX1_namedFrom_7 : decode cX1_namedFrom 7 = .ok (.iload_n 2, 1) := by decide +kernel
theorem dX1_namedFrom_8 : decode cX1_namedFrom 8 = .ok (.if_icmp .ge 20, 3) := by decide +kernel
theorem dX1_namedFrom_11 : decode cX1_namedFrom 11 = .ok (.iload_n 3, 1) := by decide +kernel
theorem dX1_namedFrom_12 : decode cX1_namedFrom 12 = .ok (.iconst 1, 1) := by decide +kernel
theorem dX1_namedFrom_13 : decode cX1_namedFrom 13 = .ok (.aload_n 0, 1) := by decide +kernel
theorem dX1_namedFrom_14 : decode cX1_namedFrom 14 = .ok (.iload 4, 2) := by decide +kernel
theorem dX1_namedFrom_16 : decode cX1_namedFrom 16 = .ok (.invokevirtual 60, 3) := by decide +kernel
theorem dX1_namedFrom_19 : decode cX1_namedFrom 19 = .ok (.ishl, 1) := by decide +kernel
theorem dX1_namedFrom_20 : decode cX1_namedFrom 20 = .ok (.ior, 1) := by decide +kernel
theorem dX1_namedFrom_21 : decode cX1_namedFrom 21 = .ok (.istore_n 3, 1) := by decide +kernel
theorem dX1_namedFrom_22 : decode cX1_namedFrom 22 = .ok (.iinc 4 1, 3) := by decide +kernel
theorem dX1_namedFrom_25 : decode cX1_namedFrom 25 = .ok (.goto (-20), 3) := by decide +kernel
theorem dX1_namedFrom_28 : decode cX1_namedFrom 28 = .ok (.iload_n 3, 1) := by decide +kernel
theorem dX1_namedFrom_29 : decode cX1_namedFrom 29 = .ok (.ireturn, 1) := by decide +kernel
theorem dX2_init_0 : decode cX2_init 0 = .ok (.aload_n 0, 1) := by decide +kernel
theorem dX2_init_1 : decode cX2_init 1 = .ok (.invokespecial 3, 3) := by decide +kernel
theorem dX2_init_4 : decode cX2_init 4 = .ok (.aload_n 0, 1) := by decide +kernel
theorem dX2_init_5 : decode cX2_init 5 = .ok (.bipush 11, 2) := by decide +kernel
theorem dX2_init_7 : decode cX2_init 7 = .ok (.newarray .int, 2) := by decide +kernel
theorem dX2_init_9 : decode cX2_init 9 = .ok (.putfield 9, 3) := by decide +kernel
theorem dX2_init_12 : decode cX2_init 12 = .ok (.aload_n 0, 1) := by decide +kernel
theorem dX2_init_13 : decode cX2_init 13 = .ok (.bipush 11, 2) := by decide +kernel
theorem dX2_init_15 : decode cX2_init 15 = .ok (.newarray .int, 2) := by decide +kernel
theorem dX2_init_17 : decode cX2_init 17 = .ok (.putfield 15, 3) := by decide +kernel
theorem dX2_init_20 : decode cX2_init 20 = .ok (.aload_n 0, 1) := by decide +kernel
theorem dX2_init_21 : decode cX2_init 21 = .ok (.bipush 11, 2) := by decide +kernel
theorem dX2_init_23 : decode cX2_init 23 = .ok (.newarray .int, 2) := by decide +kernel
theorem dX2_init_25 : decode cX2_init 25 = .ok (.putfield 18, 3) := by decide +kernel
theorem dX2_init_28 : decode cX2_init 28 = .ok (.return_, 1) := by decide +kernel
theorem dX2_treesWithLeaves_0 : decode cX2_treesWithLeaves 0 = .ok (.iload_n 1, 1) := by decide +kernel
theorem dX2_treesWithLeaves_1 : decode cX2_treesWithLeaves 1 = .ok (.iconst 1, 1) := by decide +kernel
theorem dX2_treesWithLeaves_2 : decode cX2_treesWithLeaves 2 = .ok (.if_icmp .ne 13, 3) := by decide +kernel
theorem dX2_treesWithLeaves_5 : decode cX2_treesWithLeaves 5 = .ok (.iload_n 2, 1) := by decide +kernel
theorem dX2_treesWithLeaves_6 : decode cX2_treesWithLeaves 6 = .ok (.ifCond .ne 7, 3) := by decide +kernel
theorem dX2_treesWithLeaves_9 : decode cX2_treesWithLeaves 9 = .ok (.iconst 1, 1) := by decide +kernel
theorem dX2_treesWithLeaves_10 : decode cX2_treesWithLeaves 10 = .ok (.goto 4, 3) := by decide +kernel
theorem dX2_treesWithLeaves_13 : decode cX2_treesWithLeaves 13 = .ok (.iconst 0, 1) := by decide +kernel
theorem dX2_treesWithLeaves_14 : decode cX2_treesWithLeaves 14 = .ok (.ireturn, 1) := by decide +kernel
theorem dX2_treesWithLeaves_15 : decode cX2_treesWithLeaves 15 = .ok (.iload_n 2, 1) := by decide +kernel
theorem dX2_treesWithLeaves_16 : decode cX2_treesWithLeaves 16 = .ok (.iload_n 1, 1) := by decide +kernel
theorem dX2_treesWithLeaves_17 : decode cX2_treesWithLeaves 17 = .ok (.if_icmp .le 5, 3) := by decide +kernel
theorem dX2_treesWithLeaves_20 : decode cX2_treesWithLeaves 20 = .ok (.iconst 0, 1) := by decide +kernel
theorem dX2_treesWithLeaves_21 : decode cX2_treesWithLeaves 21 = .ok (.ireturn, 1) := by decide +kernel
theorem dX2_treesWithLeaves_22 : decode cX2_treesWithLeaves 22 = .ok (.aload_n 0, 1) := by decide +kernel
theorem dX2_treesWithLeaves_23 : decode cX2_treesWithLeaves 23 = .ok (.iload_n 1, 1) := by decide +kernel
theorem dX2_treesWithLeaves_24 : decode cX2_treesWithLeaves 24 = .ok (.iconst 2, 1) := by decide +kernel
theorem dX2_treesWithLeaves_25 : decode cX2_treesWithLeaves 25 = .ok (.isub, 1) := by decide +kernel
theorem dX2_treesWithLeaves_26 : decode cX2_treesWithLeaves 26 = .ok (.iload_n 1, 1) := by decide +kernel
theorem dX2_treesWithLeaves_27 : decode cX2_treesWithLeaves 27 = .ok (.iload_n 2, 1) := by decide +kernel
theorem dX2_treesWithLeaves_28 : decode cX2_treesWithLeaves 28 = .ok (.isub, 1) := by decide +kernel
theorem dX2_treesWithLeaves_29 : decode cX2_treesWithLeaves 29 = .ok (.invokevirtual 21, 3) := by decide +kernel
theorem dX2_treesWithLeaves_32 : decode cX2_treesWithLeaves 32 = .ok (.istore_n 3, 1) := by decide +kernel
theorem dX2_treesWithLeaves_33 : decode cX2_treesWithLeaves 33 = .ok (.iload_n 2, 1) := by decide +kernel
theorem dX2_treesWithLeaves_34 : decode cX2_treesWithLeaves 34 = .ok (.iconst 1, 1) := by decide +kernel
theorem dX2_treesWithLeaves_35 : decode cX2_treesWithLeaves 35 = .ok (.iadd, 1) := by decide +kernel
theorem dX2_treesWithLeaves_36 : decode cX2_treesWithLeaves 36 = .ok (.istore 4, 2) := by decide +kernel
theorem dX2_treesWithLeaves_38 : decode cX2_treesWithLeaves 38 = .ok (.iload 4, 2) := by decide +kernel
theorem dX2_treesWithLeaves_40 : decode cX2_treesWithLeaves 40 = .ok (.iload_n 1, 1) := by decide +kernel
theorem dX2_treesWithLeaves_41 : decode cX2_treesWithLeaves 41 = .ok (.if_icmp .gt 14, 3) := by decide +kernel
theorem dX2_treesWithLeaves_44 : decode cX2_treesWithLeaves 44 = .ok (.iload_n 3, 1) := by decide +kernel
theorem dX2_treesWithLeaves_45 : decode cX2_treesWithLeaves 45 = .ok (.iload 4, 2) := by decide +kernel
theorem dX2_treesWithLeaves_47 : decode cX2_treesWithLeaves 47 = .ok (.imul, 1) := by decide +kernel
theorem dX2_treesWithLeaves_48 : decode cX2_treesWithLeaves 48 = .ok (.istore_n 3, 1) := by decide +kernel
theorem dX2_treesWithLeaves_49 : decode cX2_treesWithLeaves 49 = .ok (.iinc 4 1, 3) := by decide +kernel
theorem dX2_treesWithLeaves_52 : decode cX2_treesWithLeaves 52 = .ok (.goto (-14), 3) := by decide +kernel
theorem dX2_treesWithLeaves_55 : decode cX2_treesWithLeaves 55 = .ok (.iload_n 3, 1) := by decide +kernel
theorem dX2_treesWithLeaves_56 : decode cX2_treesWithLeaves 56 = .ok (.ireturn, 1) := by decide +kernel
theorem dX2_partitionsOf_0 : decode cX2_partitionsOf 0 = .ok (.iload_n 2, 1) := by decide +kernel
theorem dX2_partitionsOf_1 : decode cX2_partitionsOf 1 = .ok (.ifCond .lt 9, 3) := by decide +kernel
theorem dX2_partitionsOf_4 : decode cX2_partitionsOf 4 = .ok (.iload_n 2, 1) := by decide +kernel
theorem dX2_partitionsOf_5 : decode cX2_partitionsOf 5 = .ok (.bipush 10, 2) := by decide +kernel
theorem dX2_partitionsOf_7 : decode cX2_partitionsOf 7 = .ok (.if_icmp .le 5, 3) := by decide +kernel
theorem dX2_partitionsOf_10 : decode cX2_partitionsOf 10 = .ok (.iconst 0, 1) := by decide +kernel
theorem dX2_partitionsOf_11 : decode cX2_partitionsOf 11 = .ok (.ireturn, 1) := by decide +kernel
theorem dX2_partitionsOf_12 : decode cX2_partitionsOf 12 = .ok (.aload_n 0, 1) := by decide +kernel
theorem dX2_partitionsOf_13 : decode cX2_partitionsOf 13 = .ok (.getfield 9, 3) := by decide +kernel
theorem dX2_partitionsOf_16 : decode cX2_partitionsOf 16 = .ok (.iconst 0, 1) := by decide +kernel
theorem dX2_partitionsOf_17 : decode cX2_partitionsOf 17 = .ok (.invokestatic 25, 3) := by decide +kernel
theorem dX2_partitionsOf_20 : decode cX2_partitionsOf 20 = .ok (.aload_n 0, 1) := by decide +kernel
theorem dX2_partitionsOf_21 : decode cX2_partitionsOf 21 = .ok (.getfield 9, 3) := by decide +kernel
theorem dX2_partitionsOf_24 : decode cX2_partitionsOf 24 = .ok (.iconst 0, 1) := by decide +kernel
theorem dX2_partitionsOf_25 : decode cX2_partitionsOf 25 = .ok (.iconst 1, 1) := by decide +kernel
theorem dX2_partitionsOf_26 : decode cX2_partitionsOf 26 = .ok (.iastore, 1) := by decide +kernel
theorem dX2_partitionsOf_27 : decode cX2_partitionsOf 27 = .ok (.iconst 0, 1) := by decide +kernel
theorem dX2_partitionsOf_28 : decode cX2_partitionsOf 28 = .ok (.istore_n 3, 1) := by decide +kernel
theorem dX2_partitionsOf_29 : decode cX2_partitionsOf 29 = .ok (.iload_n 3, 1) := by decide +kernel
theorem dX2_partitionsOf_30 : decode cX2_partitionsOf 30 = .ok (.iload_n 1, 1) := by decide +kernel
theorem dX2_partitionsOf_31 : decode cX2_partitionsOf 31 = .ok (.if_icmp .ge 58, 3) := by decide +kernel
theorem dX2_partitionsOf_34 : decode cX2_partitionsOf 34 = .ok (.bipush 10, 2) := by decide +kernel
theorem dX2_partitionsOf_36 : decode cX2_partitionsOf 36 = .ok (.istore 4, 2) := by decide +kernel
theorem dX2_partitionsOf_38 : decode cX2_partitionsOf 38 = .ok (.iload 4, 2) := by decide +kernel
theorem dX2_partitionsOf_40 : decode cX2_partitionsOf 40 = .ok (.ifCond .le 36, 3) := by decide +kernel
theorem dX2_partitionsOf_43 : decode cX2_partitionsOf 43 = .ok (.aload_n 0, 1) := by decide +kernel
theorem dX2_partitionsOf_44 : decode cX2_partitionsOf 44 = .ok (.getfield 9, 3) := by decide +kernel
theorem dX2_partitionsOf_47 : decode cX2_partitionsOf 47 = .ok (.iload 4, 2) := by decide +kernel
theorem dX2_partitionsOf_49 : decode cX2_partitionsOf 49 = .ok (.iload 4, 2) := by decide +kernel
theorem dX2_partitionsOf_51 : decode cX2_partitionsOf 51 = .ok (.aload_n 0, 1) := by decide +kernel
theorem dX2_partitionsOf_52 : decode cX2_partitionsOf 52 = .ok (.getfield 9, 3) := by decide +kernel
theorem dX2_partitionsOf_55 : decode cX2_partitionsOf 55 = .ok (.iload 4, 2) := by decide +kernel
theorem dX2_partitionsOf_57 : decode cX2_partitionsOf 57 = .ok (.iaload, 1) := by decide +kernel
theorem dX2_partitionsOf_58 : decode cX2_partitionsOf 58 = .ok (.imul, 1) := by decide +kernel
theorem dX2_partitionsOf_59 : decode cX2_partitionsOf 59 = .ok (.aload_n 0, 1) := by decide +kernel
theorem dX2_partitionsOf_60 : decode cX2_partitionsOf 60 = .ok (.getfield 9, 3) := by decide +kernel
theorem dX2_partitionsOf_63 : decode cX2_partitionsOf 63 = .ok (.iload 4, 2) := by decide +kernel
theorem dX2_partitionsOf_65 : decode cX2_partitionsOf 65 = .ok (.iconst 1, 1) := by decide +kernel
theorem dX2_partitionsOf_66 : decode cX2_partitionsOf 66 = .ok (.isub, 1) := by decide +kernel
theorem dX2_partitionsOf_67 : decode cX2_partitionsOf 67 = .ok (.iaload, 1) := by decide +kernel
theorem dX2_partitionsOf_68 : decode cX2_partitionsOf 68 = .ok (.iadd, 1) := by decide +kernel
theorem dX2_partitionsOf_69 : decode cX2_partitionsOf 69 = .ok (.iastore, 1) := by decide +kernel
theorem dX2_partitionsOf_70 : decode cX2_partitionsOf 70 = .ok (.iinc 4 (-1), 3) := by decide +kernel
theorem dX2_partitionsOf_73 : decode cX2_partitionsOf 73 = .ok (.goto (-35), 3) := by decide +kernel
theorem dX2_partitionsOf_76 : decode cX2_partitionsOf 76 = .ok (.aload_n 0, 1) := by decide +kernel
theorem dX2_partitionsOf_77 : decode cX2_partitionsOf 77 = .ok (.getfield 9, 3) := by decide +kernel
theorem dX2_partitionsOf_80 : decode cX2_partitionsOf 80 = .ok (.iconst 0, 1) := by decide +kernel
theorem dX2_partitionsOf_81 : decode cX2_partitionsOf 81 = .ok (.iconst 0, 1) := by decide +kernel
theorem dX2_partitionsOf_82 : decode cX2_partitionsOf 82 = .ok (.iastore, 1) := by decide +kernel
theorem dX2_partitionsOf_83 : decode cX2_partitionsOf 83 = .ok (.iinc 3 1, 3) := by decide +kernel
theorem dX2_partitionsOf_86 : decode cX2_partitionsOf 86 = .ok (.goto (-57), 3) := by decide +kernel
theorem dX2_partitionsOf_89 : decode cX2_partitionsOf 89 = .ok (.aload_n 0, 1) := by decide +kernel
theorem dX2_partitionsOf_90 : decode cX2_partitionsOf 90 = .ok (.getfield 9, 3) := by decide +kernel
theorem dX2_partitionsOf_93 : decode cX2_partitionsOf 93 = .ok (.iload_n 2, 1) := by decide +kernel
theorem dX2_partitionsOf_94 : decode cX2_partitionsOf 94 = .ok (.iaload, 1) := by decide +kernel
theorem dX2_partitionsOf_95 : decode cX2_partitionsOf 95 = .ok (.ireturn, 1) := by decide +kernel
theorem dX2_rootedClasses_0 : decode cX2_rootedClasses 0 = .ok (.aload_n 0, 1) := by decide +kernel
theorem dX2_rootedClasses_1 : decode cX2_rootedClasses 1 = .ok (.invokevirtual 31, 3) := by decide +kernel
theorem dX2_rootedClasses_4 : decode cX2_rootedClasses 4 = .ok (.iload_n 1, 1) := by decide +kernel
theorem dX2_rootedClasses_5 : decode cX2_rootedClasses 5 = .ok (.iconst 1, 1) := by decide +kernel
theorem dX2_rootedClasses_6 : decode cX2_rootedClasses 6 = .ok (.if_icmp .lt 18, 3) := by decide +kernel
theorem dX2_rootedClasses_9 : decode cX2_rootedClasses 9 = .ok (.iload_n 1, 1) := by decide +kernel
theorem dX2_rootedClasses_10 : decode cX2_rootedClasses 10 = .ok (.bipush 10, 2) := by decide +kernel
theorem dX2_rootedClasses_12 : decode cX2_rootedClasses 12 = .ok (.if_icmp .gt 12, 3) := by decide +kernel
theorem dX2_rootedClasses_15 : decode cX2_rootedClasses 15 = .ok (.aload_n 0, 1) := by decide +kernel
theorem dX2_rootedClasses_16 : decode cX2_rootedClasses 16 = .ok (.getfield 15, 3) := by decide +kernel
theorem dX2_rootedClasses_19 : decode cX2_rootedClasses 19 = .ok (.iload_n 1, 1) := by decide +kernel
theorem dX2_rootedClasses_20 : decode cX2_rootedClasses 20 = .ok (.iaload, 1) := by decide +kernel
theorem dX2_rootedClasses_21 : decode cX2_rootedClasses 21 = .ok (.goto 4, 3) := by decide +kernel
theorem dX2_rootedClasses_24 : decode cX2_rootedClasses 24 = .ok (.iconst 0, 1) := by decide +kernel
theorem dX2_rootedClasses_25 : decode cX2_rootedClasses 25 = .ok (.ireturn, 1) := by decide +kernel
theorem dX2_countRooted_0 : decode cX2_countRooted 0 = .ok (.aload_n 0, 1) := by decide +kernel
theorem dX2_countRooted_1 : decode cX2_countRooted 1 = .ok (.getfield 18, 3) := by decide +kernel
theorem dX2_countRooted_4 : decode cX2_countRooted 4 = .ok (.iconst 0, 1) := by decide +kernel
theorem dX2_countRooted_5 : decode cX2_countRooted 5 = .ok (.invokestatic 25, 3) := by decide +kernel
theorem dX2_countRooted_8 : decode cX2_countRooted 8 = .ok (.aload_n 0, 1) := by decide +kernel
theorem dX2_countRooted_9 : decode cX2_countRooted 9 = .ok (.getfield 15, 3) := by decide +kernel
theorem dX2_countRooted_12 : decode cX2_countRooted 12 = .ok (.iconst 1, 1) := by decide +kernel
theorem dX2_countRooted_13 : decode cX2_countRooted 13 = .ok (.iconst 1, 1) := by decide +kernel
theorem dX2_countRooted_14 : decode cX2_countRooted 14 = .ok (.iastore, 1) := by decide +kernel
theorem dX2_countRooted_15 : decode cX2_countRooted 15 = .ok (.iconst 1, 1) := by decide +kernel
theorem dX2_countRooted_16 : decode cX2_countRooted 16 = .ok (.istore_n 1, 1) := by decide +kernel
theorem dX2_countRooted_17 : decode cX2_countRooted 17 = .ok (.iload_n 1, 1) := by decide +kernel
theorem dX2_countRooted_18 : decode cX2_countRooted 18 = .ok (.bipush 10, 2) := by decide +kernel
theorem dX2_countRooted_20 : decode cX2_countRooted 20 = .ok (.if_icmp .ge 87, 3) := by decide +kernel
theorem dX2_countRooted_23 : decode cX2_countRooted 23 = .ok (.iload_n 1, 1) := by decide +kernel
theorem dX2_countRooted_24 : decode cX2_countRooted 24 = .ok (.istore_n 2, 1) := by decide +kernel
theorem dX2_countRooted_25 : decode cX2_countRooted 25 = .ok (.iload_n 2, 1) := by decide +kernel
theorem dX2_countRooted_26 : decode cX2_countRooted 26 = .ok (.bipush 10, 2) := by decide +kernel
theorem dX2_countRooted_28 : decode cX2_countRooted 28 = .ok (.if_icmp .gt 27, 3) := by decide +kernel
theorem dX2_countRooted_31 : decode cX2_countRooted 31 = .ok (.aload_n 0, 1) := by decide +kernel
theorem dX2_countRooted_32 : decode cX2_countRooted 32 = .ok (.getfield 18, 3) := by decide +kernel
theorem dX2_countRooted_35 : decode cX2_countRooted 35 = .ok (.iload_n 2, 1) := by decide +kernel
theorem dX2_countRooted_36 : decode cX2_countRooted 36 = .ok (.dup2, 1) := by decide +kernel
theorem dX2_countRooted_37 : decode cX2_countRooted 37 = .ok (.iaload, 1) := by decide +kernel
theorem dX2_countRooted_38 : decode cX2_countRooted 38 = .ok (.iload_n 1, 1) := by decide +kernel
theorem dX2_countRooted_39 : decode cX2_countRooted 39 = .ok (.aload_n 0, 1) := by decide +kernel
theorem dX2_countRooted_40 : decode cX2_countRooted 40 = .ok (.getfield 15, 3) := by decide +kernel
theorem dX2_countRooted_43 : decode cX2_countRooted 43 = .ok (.iload_n 1, 1) := by decide +kernel
theorem dX2_countRooted_44 : decode cX2_countRooted 44 = .ok (.iaload, 1) := by decide +kernel
theorem dX2_countRooted_45 : decode cX2_countRooted 45 = .ok (.imul, 1) := by decide +kernel
theorem dX2_countRooted_46 : decode cX2_countRooted 46 = .ok (.iadd, 1) := by decide +kernel
theorem dX2_countRooted_47 : decode cX2_countRooted 47 = .ok (.iastore, 1) := by decide +kernel
theorem dX2_countRooted_48 : decode cX2_countRooted 48 = .ok (.iload_n 2, 1) := by decide +kernel
theorem dX2_countRooted_49 : decode cX2_countRooted 49 = .ok (.iload_n 1, 1) := by decide +kernel
theorem dX2_countRooted_50 : decode cX2_countRooted 50 = .ok (.iadd, 1) := by decide +kernel
theorem dX2_countRooted_51 : decode cX2_countRooted 51 = .ok (.istore_n 2, 1) := by decide +kernel
theorem dX2_countRooted_52 : decode cX2_countRooted 52 = .ok (.goto (-27), 3) := by decide +kernel
theorem dX2_countRooted_55 : decode cX2_countRooted 55 = .ok (.iconst 0, 1) := by decide +kernel
theorem dX2_countRooted_56 : decode cX2_countRooted 56 = .ok (.istore_n 2, 1) := by decide +kernel
theorem dX2_countRooted_57 : decode cX2_countRooted 57 = .ok (.iconst 1, 1) := by decide +kernel
theorem dX2_countRooted_58 : decode cX2_countRooted 58 = .ok (.istore_n 3, 1) := by decide +kernel
theorem dX2_countRooted_59 : decode cX2_countRooted 59 = .ok (.iload_n 3, 1) := by decide +kernel
theorem dX2_countRooted_60 : decode cX2_countRooted 60 = .ok (.iload_n 1, 1) := by decide +kernel
theorem dX2_countRooted_61 : decode cX2_countRooted 61 = .ok (.if_icmp .gt 29, 3) := by decide +kernel
theorem dX2_countRooted_64 : decode cX2_countRooted 64 = .ok (.iload_n 2, 1) := by decide +kernel
theorem dX2_countRooted_65 : decode cX2_countRooted 65 = .ok (.aload_n 0, 1) := by decide +kernel
theorem dX2_countRooted_66 : decode cX2_countRooted 66 = .ok (.getfield 18, 3) := by decide +kernel
theorem dX2_countRooted_69 : decode cX2_countRooted 69 = .ok (.iload_n 3, 1) := by decide +kernel
theorem dX2_countRooted_70 : decode cX2_countRooted 70 = .ok (.iaload, 1) := by decide +kernel
theorem dX2_countRooted_71 : decode cX2_countRooted 71 = .ok (.aload_n 0, 1) := by decide +kernel
theorem dX2_countRooted_72 : decode cX2_countRooted 72 = .ok (.getfield 15, 3) := by decide +kernel
theorem dX2_countRooted_75 : decode cX2_countRooted 75 = .ok (.iload_n 1, 1) := by decide +kernel
theorem dX2_countRooted_76 : decode cX2_countRooted 76 = .ok (.iconst 1, 1) := by decide +kernel
theorem dX2_countRooted_77 : decode cX2_countRooted 77 = .ok (.iadd, 1) := by decide +kernel
theorem dX2_countRooted_78 : decode cX2_countRooted 78 = .ok (.iload_n 3, 1) := by decide +kernel
theorem dX2_countRooted_79 : decode cX2_countRooted 79 = .ok (.isub, 1) := by decide +kernel
theorem dX2_countRooted_80 : decode cX2_countRooted 80 = .ok (.iaload, 1) := by decide +kernel
theorem dX2_countRooted_81 : decode cX2_countRooted 81 = .ok (.imul, 1) := by decide +kernel
theorem dX2_countRooted_82 : decode cX2_countRooted 82 = .ok (.iadd, 1) := by decide +kernel
theorem dX2_countRooted_83 : decode cX2_countRooted 83 = .ok (.istore_n 2, 1) := by decide +kernel
theorem dX2_countRooted_84 : decode cX2_countRooted 84 = .ok (.iinc 3 1, 3) := by decide +kernel
theorem dX2_countRooted_87 : decode cX2_countRooted 87 = .ok (.goto (-28), 3) := by decide +kernel
theorem dX2_countRooted_90 : decode cX2_countRooted 90 = .ok (.aload_n 0, 1) := by decide +kernel
theorem dX2_countRooted_91 : decode cX2_countRooted 91 = .ok (.getfield 15, 3) := by decide +kernel
theorem dX2_countRooted_94 : decode cX2_countRooted 94 = .ok (.iload_n 1, 1) := by decide +kernel
theorem dX2_countRooted_95 : decode cX2_countRooted 95 = .ok (.iconst 1, 1) := by decide +kernel
theorem dX2_countRooted_96 : decode cX2_countRooted 96 = .ok (.iadd, 1) := by decide +kernel
theorem dX2_countRooted_97 : decode cX2_countRooted 97 = .ok (.iload_n 2, 1) := by decide +kernel
theorem dX2_countRooted_98 : decode cX2_countRooted 98 = .ok (.iload_n 1, 1) := by decide +kernel
theorem dX2_countRooted_99 : decode cX2_countRooted 99 = .ok (.idiv, 1) := by decide +kernel
theorem dX2_countRooted_100 : decode cX2_countRooted 100 = .ok (.iastore, 1) := by decide +kernel
theorem dX2_countRooted_101 : decode cX2_countRooted 101 = .ok (.iinc 1 1, 3) := by decide +kernel
theorem dX2_countRooted_104 : decode cX2_countRooted 104 = .ok (.goto (-87), 3) := by decide +kernel
theorem dX2_countRooted_107 : decode cX2_countRooted 107 = .ok (.return_, 1) := by decide +kernel
theorem dX2_freeClasses_0 : decode cX2_freeClasses 0 = .ok (.iload_n 1, 1) := by decide +kernel
theorem dX2_freeClasses_1 : decode cX2_freeClasses 1 = .ok (.iconst 1, 1) := by decide +kernel
theorem dX2_freeClasses_2 : decode cX2_freeClasses 2 = .ok (.if_icmp .lt 9, 3) := by decide +kernel
theorem dX2_freeClasses_5 : decode cX2_freeClasses 5 = .ok (.iload_n 1, 1) := by decide +kernel
theorem dX2_freeClasses_6 : decode cX2_freeClasses 6 = .ok (.bipush 10, 2) := by decide +kernel
theorem dX2_freeClasses_8 : decode cX2_freeClasses 8 = .ok (.if_icmp .le 5, 3) := by decide +kernel
theorem dX2_freeClasses_11 : decode cX2_freeClasses 11 = .ok (.iconst 0, 1) := by decide +kernel
theorem dX2_freeClasses_12 : decode cX2_freeClasses 12 = .ok (.ireturn, 1) := by decide +kernel
theorem dX2_freeClasses_13 : decode cX2_freeClasses 13 = .ok (.aload_n 0, 1) := by decide +kernel
theorem dX2_freeClasses_14 : decode cX2_freeClasses 14 = .ok (.invokevirtual 31, 3) := by decide +kernel
theorem dX2_freeClasses_17 : decode cX2_freeClasses 17 = .ok (.iload_n 1, 1) := by decide +kernel
theorem dX2_freeClasses_18 : decode cX2_freeClasses 18 = .ok (.iconst 2, 1) := by decide +kernel
theorem dX2_freeClasses_19 : decode cX2_freeClasses 19 = .ok (.irem, 1) := by decide +kernel
theorem dX2_freeClasses_20 : decode cX2_freeClasses 20 = .ok (.ifCond .ne 15, 3) := by decide +kernel
theorem dX2_freeClasses_23 : decode cX2_freeClasses 23 = .ok (.aload_n 0, 1) := by decide +kernel
theorem dX2_freeClasses_24 : decode cX2_freeClasses 24 = .ok (.getfield 15, 3) := by decide +kernel
theorem dX2_freeClasses_27 : decode cX2_freeClasses 27 = .ok (.iload_n 1, 1) := by decide +kernel
theorem dX2_freeClasses_28 : decode cX2_freeClasses 28 = .ok (.iconst 2, 1) := by decide +kernel
theorem dX2_freeClasses_29 : decode cX2_freeClasses 29 = .ok (.idiv, 1) := by decide +kernel
theorem dX2_freeClasses_30 : decode cX2_freeClasses 30 = .ok (.iaload, 1) := by decide +kernel
theorem dX2_freeClasses_31 : decode cX2_freeClasses 31 = .ok (.ineg, 1) := by decide +kernel
theorem dX2_freeClasses_32 : decode cX2_freeClasses 32 = .ok (.goto 4, 3) := by decide +kernel
theorem dX2_freeClasses_35 : decode cX2_freeClasses 35 = .ok (.iconst 0, 1) := by decide +kernel
theorem dX2_freeClasses_36 : decode cX2_freeClasses 36 = .ok (.istore_n 2, 1) := by decide +kernel
theorem dX2_freeClasses_37 : decode cX2_freeClasses 37 = .ok (.iconst 1, 1) := by decide +kernel
theorem dX2_freeClasses_38 : decode cX2_freeClasses 38 = .ok (.istore_n 3, 1) := by decide +kernel
theorem dX2_freeClasses_39 : decode cX2_freeClasses 39 = .ok (.iload_n 3, 1) := by decide +kernel
theorem dX2_freeClasses_40 : decode cX2_freeClasses 40 = .ok (.iload_n 1, 1) := by decide +kernel
theorem dX2_freeClasses_41 : decode cX2_freeClasses 41 = .ok (.if_icmp .ge 27, 3) := by decide +kernel
theorem dX2_freeClasses_44 : decode cX2_freeClasses 44 = .ok (.iload_n 2, 1) := by decide +kernel
theorem dX2_freeClasses_45 : decode cX2_freeClasses 45 = .ok (.aload_n 0, 1) := by decide +kernel
theorem dX2_freeClasses_46 : decode cX2_freeClasses 46 = .ok (.getfield 15, 3) := by decide +kernel
theorem dX2_freeClasses_49 : decode cX2_freeClasses 49 = .ok (.iload_n 3, 1) := by decide +kernel
theorem dX2_freeClasses_50 : decode cX2_freeClasses 50 = .ok (.iaload, 1) := by decide +kernel
theorem dX2_freeClasses_51 : decode cX2_freeClasses 51 = .ok (.aload_n 0, 1) := by decide +kernel
theorem dX2_freeClasses_52 : decode cX2_freeClasses 52 = .ok (.getfield 15, 3) := by decide +kernel
theorem dX2_freeClasses_55 : decode cX2_freeClasses 55 = .ok (.iload_n 1, 1) := by decide +kernel
theorem dX2_freeClasses_56 : decode cX2_freeClasses 56 = .ok (.iload_n 3, 1) := by decide +kernel
theorem dX2_freeClasses_57 : decode cX2_freeClasses 57 = .ok (.isub, 1) := by decide +kernel
theorem dX2_freeClasses_58 : decode cX2_freeClasses 58 = .ok (.iaload, 1) := by decide +kernel
theorem dX2_freeClasses_59 : decode cX2_freeClasses 59 = .ok (.imul, 1) := by decide +kernel
theorem dX2_freeClasses_60 : decode cX2_freeClasses 60 = .ok (.iadd, 1) := by decide +kernel
theorem dX2_freeClasses_61 : decode cX2_freeClasses 61 = .ok (.istore_n 2, 1) := by decide +kernel
theorem dX2_freeClasses_62 : decode cX2_freeClasses 62 = .ok (.iinc 3 1, 3) := by decide +kernel
theorem dX2_freeClasses_65 : decode cX2_freeClasses 65 = .ok (.goto (-26), 3) := by decide +kernel
theorem dX2_freeClasses_68 : decode cX2_freeClasses 68 = .ok (.aload_n 0, 1) := by decide +kernel
theorem dX2_freeClasses_69 : decode cX2_freeClasses 69 = .ok (.getfield 15, 3) := by decide +kernel
theorem dX2_freeClasses_72 : decode cX2_freeClasses 72 = .ok (.iload_n 1, 1) := by decide +kernel
theorem dX2_freeClasses_73 : decode cX2_freeClasses 73 = .ok (.iaload, 1) := by decide +kernel
theorem dX2_freeClasses_74 : decode cX2_freeClasses 74 = .ok (.iload_n 2, 1) := by decide +kernel
theorem dX2_freeClasses_75 : decode cX2_freeClasses 75 = .ok (.iconst 2, 1) := by decide +kernel
theorem dX2_freeClasses_76 : decode cX2_freeClasses 76 = .ok (.idiv, 1) := by decide +kernel
theorem dX2_freeClasses_77 : decode cX2_freeClasses 77 = .ok (.isub, 1) := by decide +kernel
theorem dX2_freeClasses_78 : decode cX2_freeClasses 78 = .ok (.ireturn, 1) := by decide +kernel
theorem dX3_init_0 : decode cX3_init 0 = .ok (.aload_n 0, 1) := by decide +kernel
theorem dX3_init_1 : decode cX3_init 1 = .ok (.invokespecial 3, 3) := by decide +kernel
theorem dX3_init_4 : decode cX3_init 4 = .ok (.aload_n 0, 1) := by decide +kernel
theorem dX3_init_5 : decode cX3_init 5 = .ok (.bipush 10, 2) := by decide +kernel
theorem dX3_init_7 : decode cX3_init 7 = .ok (.newarray .int, 2) := by decide +kernel
theorem dX3_init_9 : decode cX3_init 9 = .ok (.putfield 9, 3) := by decide +kernel
theorem dX3_init_12 : decode cX3_init 12 = .ok (.aload_n 0, 1) := by decide +kernel
theorem dX3_init_13 : decode cX3_init 13 = .ok (.bipush 10, 2) := by decide +kernel
theorem dX3_init_15 : decode cX3_init 15 = .ok (.newarray .int, 2) := by decide +kernel
theorem dX3_init_17 : decode cX3_init 17 = .ok (.putfield 15, 3) := by decide +kernel
theorem dX3_init_20 : decode cX3_init 20 = .ok (.aload_n 0, 1) := by decide +kernel
theorem dX3_init_21 : decode cX3_init 21 = .ok (.iconst 1, 1) := by decide +kernel
theorem dX3_init_22 : decode cX3_init 22 = .ok (.putfield 18, 3) := by decide +kernel
theorem dX3_init_25 : decode cX3_init 25 = .ok (.aload_n 0, 1) := by decide +kernel
theorem dX3_init_26 : decode cX3_init 26 = .ok (.getfield 15, 3) := by decide +kernel
theorem dX3_init_29 : decode cX3_init 29 = .ok (.iconst 1, 1) := by decide +kernel
theorem dX3_init_30 : decode cX3_init 30 = .ok (.invokestatic 22, 3) := by decide +kernel
theorem dX3_init_33 : decode cX3_init 33 = .ok (.return_, 1) := by decide +kernel
theorem dX3_clear_0 : decode cX3_clear 0 = .ok (.iload_n 1, 1) := by decide +kernel
theorem dX3_clear_1 : decode cX3_clear 1 = .ok (.iconst 1, 1) := by decide +kernel
theorem dX3_clear_2 : decode cX3_clear 2 = .ok (.if_icmp .lt 14, 3) := by decide +kernel
theorem dX3_clear_5 : decode cX3_clear 5 = .ok (.iload_n 1, 1) := by decide +kernel
theorem dX3_clear_6 : decode cX3_clear 6 = .ok (.bipush 10, 2) := by decide +kernel
theorem dX3_clear_8 : decode cX3_clear 8 = .ok (.if_icmp .gt 8, 3) := by decide +kernel
theorem dX3_clear_11 : decode cX3_clear 11 = .ok (.aload_n 0, 1) := by decide +kernel
theorem dX3_clear_12 : decode cX3_clear 12 = .ok (.iload_n 1, 1) := by decide +kernel
theorem dX3_clear_13 : decode cX3_clear 13 = .ok (.putfield 18, 3) := by decide +kernel
theorem dX3_clear_16 : decode cX3_clear 16 = .ok (.aload_n 0, 1) := by decide +kernel
theorem dX3_clear_17 : decode cX3_clear 17 = .ok (.invokevirtual 28, 3) := by decide +kernel
theorem dX3_clear_20 : decode cX3_clear 20 = .ok (.aload_n 0, 1) := by decide +kernel
theorem dX3_clear_21 : decode cX3_clear 21 = .ok (.getfield 15, 3) := by decide +kernel
theorem dX3_clear_24 : decode cX3_clear 24 = .ok (.iconst 1, 1) := by decide +kernel
theorem dX3_clear_25 : decode cX3_clear 25 = .ok (.invokestatic 22, 3) := by decide +kernel
theorem dX3_clear_28 : decode cX3_clear 28 = .ok (.return_, 1) := by decide +kernel
theorem dX3_dropEdges_0 : decode cX3_dropEdges 0 = .ok (.aload_n 0, 1) := by decide +kernel
theorem dX3_dropEdges_1 : decode cX3_dropEdges 1 = .ok (.getfield 9, 3) := by decide +kernel
theorem dX3_dropEdges_4 : decode cX3_dropEdges 4 = .ok (.iconst 0, 1) := by decide +kernel
theorem dX3_dropEdges_5 : decode cX3_dropEdges 5 = .ok (.invokestatic 22, 3) := by decide +kernel
theorem dX3_dropEdges_8 : decode cX3_dropEdges 8 = .ok (.return_, 1) := by decide +kernel
theorem dX3_copy_0 : decode cX3_copy 0 = .ok (.aload_n 0, 1) := by decide +kernel
theorem dX3_copy_1 : decode cX3_copy 1 = .ok (.aload_n 1, 1) := by decide +kernel
theorem dX3_copy_2 : decode cX3_copy 2 = .ok (.getfield 18, 3) := by decide +kernel
theorem dX3_copy_5 : decode cX3_copy 5 = .ok (.putfield 18, 3) := by decide +kernel
theorem dX3_copy_8 : decode cX3_copy 8 = .ok (.aload_n 1, 1) := by decide +kernel
theorem dX3_copy_9 : decode cX3_copy 9 = .ok (.getfield 9, 3) := by decide +kernel
theorem dX3_copy_12 : decode cX3_copy 12 = .ok (.iconst 0, 1) := by decide +kernel
theorem dX3_copy_13 : decode cX3_copy 13 = .ok (.aload_n 0, 1) := by decide +kernel
theorem dX3_copy_14 : decode cX3_copy 14 = .ok (.getfield 9, 3) := by decide +kernel
theorem dX3_copy_17 : decode cX3_copy 17 = .ok (.iconst 0, 1) := by decide +kernel
theorem dX3_copy_18 : decode cX3_copy 18 = .ok (.bipush 10, 2) := by decide +kernel
theorem dX3_copy_20 : decode cX3_copy 20 = .ok (.invokestatic 31, 3) := by decide +kernel
theorem dX3_copy_23 : decode cX3_copy 23 = .ok (.aload_n 1, 1) := by decide +kernel
theorem dX3_copy_24 : decode cX3_copy 24 = .ok (.getfield 15, 3) := by decide +kernel
theorem dX3_copy_27 : decode cX3_copy 27 = .ok (.iconst 0, 1) := by decide +kernel
theorem dX3_copy_28 : decode cX3_copy 28 = .ok (.aload_n 0, 1) := by decide +kernel
theorem dX3_copy_29 : decode cX3_copy 29 = .ok (.getfield 15, 3) := by decide +kernel
theorem dX3_copy_32 : decode cX3_copy 32 = .ok (.iconst 0, 1) := by decide +kernel
theorem dX3_copy_33 : decode cX3_copy 33 = .ok (.bipush 10, 2) := by decide +kernel
theorem dX3_copy_35 : decode cX3_copy 35 = .ok (.invokestatic 31, 3) := by decide +kernel
theorem dX3_copy_38 : decode cX3_copy 38 = .ok (.return_, 1) := by decide +kernel
theorem dX3_saveTo_0 : decode cX3_saveTo 0 = .ok (.aload_n 1, 1) := by decide +kernel
theorem dX3_saveTo_1 : decode cX3_saveTo 1 = .ok (.arraylength, 1) := by decide +kernel
theorem dX3_saveTo_2 : decode cX3_saveTo 2 = .ok (.bipush 20, 2) := by decide +kernel
theorem dX3_saveTo_4 : decode cX3_saveTo 4 = .ok (.if_icmp .ne 28, 3) := by decide +kernel
theorem dX3_saveTo_7 : decode cX3_saveTo 7 = .ok (.aload_n 0, 1) := by decide +kernel
theorem dX3_saveTo_8 : decode cX3_saveTo 8 = .ok (.getfield 9, 3) := by decide +kernel
theorem dX3_saveTo_11 : decode cX3_saveTo 11 = .ok (.iconst 0, 1) := by decide +kernel
theorem dX3_saveTo_12 : decode cX3_saveTo 12 = .ok (.aload_n 1, 1) := by decide +kernel
theorem dX3_saveTo_13 : decode cX3_saveTo 13 = .ok (.iconst 0, 1) := by decide +kernel
theorem dX3_saveTo_14 : decode cX3_saveTo 14 = .ok (.bipush 10, 2) := by decide +kernel
theorem dX3_saveTo_16 : decode cX3_saveTo 16 = .ok (.invokestatic 31, 3) := by decide +kernel
theorem dX3_saveTo_19 : decode cX3_saveTo 19 = .ok (.aload_n 0, 1) := by decide +kernel
theorem dX3_saveTo_20 : decode cX3_saveTo 20 = .ok (.getfield 15, 3) := by decide +kernel
theorem dX3_saveTo_23 : decode cX3_saveTo 23 = .ok (.iconst 0, 1) := by decide +kernel
theorem dX3_saveTo_24 : decode cX3_saveTo 24 = .ok (.aload_n 1, 1) := by decide +kernel
theorem dX3_saveTo_25 : decode cX3_saveTo 25 = .ok (.bipush 10, 2) := by decide +kernel
theorem dX3_saveTo_27 : decode cX3_saveTo 27 = .ok (.bipush 10, 2) := by decide +kernel
theorem dX3_saveTo_29 : decode cX3_saveTo 29 = .ok (.invokestatic 31, 3) := by decide +kernel
theorem dX3_saveTo_32 : decode cX3_saveTo 32 = .ok (.return_, 1) := by decide +kernel
theorem dX3_bringFrom_0 : decode cX3_bringFrom 0 = .ok (.aload_n 1, 1) := by decide +kernel
theorem dX3_bringFrom_1 : decode cX3_bringFrom 1 = .ok (.arraylength, 1) := by decide +kernel
theorem dX3_bringFrom_2 : decode cX3_bringFrom 2 = .ok (.bipush 20, 2) := by decide +kernel
theorem dX3_bringFrom_4 : decode cX3_bringFrom 4 = .ok (.if_icmp .ne 28, 3) := by decide +kernel
theorem dX3_bringFrom_7 : decode cX3_bringFrom 7 = .ok (.aload_n 1, 1) := by decide +kernel
theorem dX3_bringFrom_8 : decode cX3_bringFrom 8 = .ok (.iconst 0, 1) := by decide +kernel
theorem dX3_bringFrom_9 : decode cX3_bringFrom 9 = .ok (.aload_n 0, 1) := by decide +kernel
theorem dX3_bringFrom_10 : decode cX3_bringFrom 10 = .ok (.getfield 9, 3) := by decide +kernel
theorem dX3_bringFrom_13 : decode cX3_bringFrom 13 = .ok (.iconst 0, 1) := by decide +kernel
theorem dX3_bringFrom_14 : decode cX3_bringFrom 14 = .ok (.bipush 10, 2) := by decide +kernel
theorem dX3_bringFrom_16 : decode cX3_bringFrom 16 = .ok (.invokestatic 31, 3) := by decide +kernel
theorem dX3_bringFrom_19 : decode cX3_bringFrom 19 = .ok (.aload_n 1, 1) := by decide +kernel
theorem dX3_bringFrom_20 : decode cX3_bringFrom 20 = .ok (.bipush 10, 2) := by decide +kernel
theorem dX3_bringFrom_22 : decode cX3_bringFrom 22 = .ok (.aload_n 0, 1) := by decide +kernel
theorem dX3_bringFrom_23 : decode cX3_bringFrom 23 = .ok (.getfield 15, 3) := by decide +kernel
theorem dX3_bringFrom_26 : decode cX3_bringFrom 26 = .ok (.iconst 0, 1) := by decide +kernel
theorem dX3_bringFrom_27 : decode cX3_bringFrom 27 = .ok (.bipush 10, 2) := by decide +kernel
theorem dX3_bringFrom_29 : decode cX3_bringFrom 29 = .ok (.invokestatic 31, 3) := by decide +kernel
theorem dX3_bringFrom_32 : decode cX3_bringFrom 32 = .ok (.return_, 1) := by decide +kernel
theorem dX3_edgesNotIn_0 : decode cX3_edgesNotIn 0 = .ok (.iconst 0, 1) := by decide +kernel
theorem dX3_edgesNotIn_1 : decode cX3_edgesNotIn 1 = .ok (.istore_n 2, 1) := by decide +kernel
theorem dX3_edgesNotIn_2 : decode cX3_edgesNotIn 2 = .ok (.iconst 0, 1) := by decide +kernel
theorem dX3_edgesNotIn_3 : decode cX3_edgesNotIn 3 = .ok (.istore_n 3, 1) := by decide +kernel
theorem dX3_edgesNotIn_4 : decode cX3_edgesNotIn 4 = .ok (.iload_n 3, 1) := by decide +kernel
theorem dX3_edgesNotIn_5 : decode cX3_edgesNotIn 5 = .ok (.aload_n 0, 1) := by decide +kernel
theorem dX3_edgesNotIn_6 : decode cX3_edgesNotIn 6 = .ok (.getfield 18, 3) := by decide +kernel
theorem dX3_edgesNotIn_9 : decode cX3_edgesNotIn 9 = .ok (.if_icmp .ge 33, 3) := by decide +kernel
theorem dX3_edgesNotIn_12 : decode cX3_edgesNotIn 12 = .ok (.iload_n 3, 1) := by decide +kernel
theorem dX3_edgesNotIn_13 : decode cX3_edgesNotIn 13 = .ok (.aload_n 1, 1) := by decide +kernel
theorem dX3_edgesNotIn_14 : decode cX3_edgesNotIn 14 = .ok (.arraylength, 1) := by decide +kernel
theorem dX3_edgesNotIn_15 : decode cX3_edgesNotIn 15 = .ok (.if_icmp .ge 27, 3) := by decide +kernel
theorem dX3_edgesNotIn_18 : decode cX3_edgesNotIn 18 = .ok (.iload_n 2, 1) := by decide +kernel
theorem dX3_edgesNotIn_19 : decode cX3_edgesNotIn 19 = .ok (.aload_n 0, 1) := by decide +kernel
theorem dX3_edgesNotIn_20 : decode cX3_edgesNotIn 20 = .ok (.getfield 9, 3) := by decide +kernel
theorem dX3_edgesNotIn_23 : decode cX3_edgesNotIn 23 = .ok (.iload_n 3, 1) := by decide +kernel
theorem dX3_edgesNotIn_24 : decode cX3_edgesNotIn 24 = .ok (.iaload, 1) := by decide +kernel
theorem dX3_edgesNotIn_25 : decode cX3_edgesNotIn 25 = .ok (.aload_n 1, 1) := by decide +kernel
theorem dX3_edgesNotIn_26 : decode cX3_edgesNotIn 26 = .ok (.iload_n 3, 1) := by decide +kernel
theorem dX3_edgesNotIn_27 : decode cX3_edgesNotIn 27 = .ok (.iaload, 1) := by decide +kernel
theorem dX3_edgesNotIn_28 : decode cX3_edgesNotIn 28 = .ok (.iconst (-1), 1) := by decide +kernel
theorem dX3_edgesNotIn_29 : decode cX3_edgesNotIn 29 = .ok (.ixor, 1) := by decide +kernel
theorem dX3_edgesNotIn_30 : decode cX3_edgesNotIn 30 = .ok (.iand, 1) := by decide +kernel
theorem dX3_edgesNotIn_31 : decode cX3_edgesNotIn 31 = .ok (.invokestatic 37, 3) := by decide +kernel
theorem dX3_edgesNotIn_34 : decode cX3_edgesNotIn 34 = .ok (.iadd, 1) := by decide +kernel
theorem dX3_edgesNotIn_35 : decode cX3_edgesNotIn 35 = .ok (.istore_n 2, 1) := by decide +kernel
theorem dX3_edgesNotIn_36 : decode cX3_edgesNotIn 36 = .ok (.iinc 3 1, 3) := by decide +kernel
theorem dX3_edgesNotIn_39 : decode cX3_edgesNotIn 39 = .ok (.goto (-35), 3) := by decide +kernel
theorem dX3_edgesNotIn_42 : decode cX3_edgesNotIn 42 = .ok (.iload_n 2, 1) := by decide +kernel
theorem dX3_edgesNotIn_43 : decode cX3_edgesNotIn 43 = .ok (.iconst 2, 1) := by decide +kernel
theorem dX3_edgesNotIn_44 : decode cX3_edgesNotIn 44 = .ok (.idiv, 1) := by decide +kernel
theorem dX3_edgesNotIn_45 : decode cX3_edgesNotIn 45 = .ok (.ireturn, 1) := by decide +kernel
theorem dX3_isVertex_0 : decode cX3_isVertex 0 = .ok (.iload_n 1, 1) := by decide +kernel
theorem dX3_isVertex_1 : decode cX3_isVertex 1 = .ok (.ifCond .lt 15, 3) := by decide +kernel
theorem dX3_isVertex_4 : decode cX3_isVertex 4 = .ok (.iload_n 1, 1) := by decide +kernel
theorem dX3_isVertex_5 : decode cX3_isVertex 5 = .ok (.aload_n 0, 1) := by decide +kernel
theorem dX3_isVertex_6 : decode cX3_isVertex 6 = .ok (.getfield 18, 3) := by decide +kernel
theorem dX3_isVertex_9 : decode cX3_isVertex 9 = .ok (.if_icmp .ge 7, 3) := by decide +kernel
theorem dX3_isVertex_12 : decode cX3_isVertex 12 = .ok (.iconst 1, 1) := by decide +kernel
theorem dX3_isVertex_13 : decode cX3_isVertex 13 = .ok (.goto 4, 3) := by decide +kernel
theorem dX3_isVertex_16 : decode cX3_isVertex 16 = .ok (.iconst 0, 1) := by decide +kernel
theorem dX3_isVertex_17 : decode cX3_isVertex 17 = .ok (.ireturn, 1) := by decide +kernel
theorem dX3_all_0 : decode cX3_all 0 = .ok (.iconst 1, 1) := by decide +kernel
theorem dX3_all_1 : decode cX3_all 1 = .ok (.aload_n 0, 1) := by decide +kernel
theorem dX3_all_2 : decode cX3_all 2 = .ok (.getfield 18, 3) := by decide +kernel
theorem dX3_all_5 : decode cX3_all 5 = .ok (.ishl, 1) := by decide +kernel
theorem dX3_all_6 : decode cX3_all 6 = .ok (.iconst 1, 1) := by decide +kernel
theorem dX3_all_7 : decode cX3_all 7 = .ok (.isub, 1) := by decide +kernel
theorem dX3_all_8 : decode cX3_all 8 = .ok (.ireturn, 1) := by decide +kernel
theorem dX3_nearOf_0 : decode cX3_nearOf 0 = .ok (.iload_n 1, 1) := by decide +kernel
theorem dX3_nearOf_1 : decode cX3_nearOf 1 = .ok (.ifCond .lt 18, 3) := by decide +kernel
theorem dX3_nearOf_4 : decode cX3_nearOf 4 = .ok (.iload_n 1, 1) := by decide +kernel
theorem dX3_nearOf_5 : decode cX3_nearOf 5 = .ok (.bipush 10, 2) := by decide +kernel
theorem dX3_nearOf_7 : decode cX3_nearOf 7 = .ok (.if_icmp .ge 12, 3) := by decide +kernel
theorem dX3_nearOf_10 : decode cX3_nearOf 10 = .ok (.aload_n 0, 1) := by decide +kernel
theorem dX3_nearOf_11 : decode cX3_nearOf 11 = .ok (.getfield 9, 3) := by decide +kernel
theorem dX3_nearOf_14 : decode cX3_nearOf 14 = .ok (.iload_n 1, 1) := by decide +kernel
theorem dX3_nearOf_15 : decode cX3_nearOf 15 = .ok (.iaload, 1) := by decide +kernel
theorem dX3_nearOf_16 : decode cX3_nearOf 16 = .ok (.goto 4, 3) := by decide +kernel
theorem dX3_nearOf_19 : decode cX3_nearOf 19 = .ok (.iconst 0, 1) := by decide +kernel
theorem dX3_nearOf_20 : decode cX3_nearOf 20 = .ok (.ireturn, 1) := by decide +kernel
theorem dX3_degree_0 : decode cX3_degree 0 = .ok (.aload_n 0, 1) := by decide +kernel
theorem dX3_degree_1 : decode cX3_degree 1 = .ok (.iload_n 1, 1) := by decide +kernel
theorem dX3_degree_2 : decode cX3_degree 2 = .ok (.invokevirtual 43, 3) := by decide +kernel
theorem dX3_degree_5 : decode cX3_degree 5 = .ok (.invokestatic 37, 3) := by decide +kernel
theorem dX3_degree_8 : decode cX3_degree 8 = .ok (.ireturn, 1) := by decide +kernel
theorem dX3_hasEdge_0 : decode cX3_hasEdge 0 = .ok (.aload_n 0, 1) := by decide +kernel
theorem dX3_hasEdge_1 : decode cX3_hasEdge 1 = .ok (.iload_n 2, 1) := by decide +kernel
theorem dX3_hasEdge_2 : decode cX3_hasEdge 2 = .ok (.invokevirtual 46, 3) := by decide +kernel
theorem dX3_hasEdge_5 : decode cX3_hasEdge 5 = .ok (.ifCond .eq 19, 3) := by decide +kernel
theorem dX3_hasEdge_8 : decode cX3_hasEdge 8 = .ok (.aload_n 0, 1) := by decide +kernel
theorem dX3_hasEdge_9 : decode cX3_hasEdge 9 = .ok (.iload_n 1, 1) := by decide +kernel
theorem dX3_hasEdge_10 : decode cX3_hasEdge 10 = .ok (.invokevirtual 43, 3) := by decide +kernel
theorem dX3_hasEdge_13 : decode cX3_hasEdge 13 = .ok (.iload_n 2, 1) := by decide +kernel
theorem dX3_hasEdge_14 : decode cX3_hasEdge 14 = .ok (.invokestatic 50, 3) := by decide +kernel
theorem dX3_hasEdge_17 : decode cX3_hasEdge 17 = .ok (.ifCond .eq 7, 3) := by decide +kernel
theorem dX3_hasEdge_20 : decode cX3_hasEdge 20 = .ok (.iconst 1, 1) := by decide +kernel
theorem dX3_hasEdge_21 : decode cX3_hasEdge 21 = .ok (.goto 4, 3) := by decide +kernel
theorem dX3_hasEdge_24 : decode cX3_hasEdge 24 = .ok (.iconst 0, 1) := by decide +kernel
theorem dX3_hasEdge_25 : decode cX3_hasEdge 25 = .ok (.ireturn, 1) := by decide +kernel
theorem dX3_join_0 : decode cX3_join 0 = .ok (.aload_n 0, 1) := by decide +kernel
theorem dX3_join_1 : decode cX3_join 1 = .ok (.iload_n 1, 1) := by decide +kernel
theorem dX3_join_2 : decode cX3_join 2 = .ok (.invokevirtual 46, 3) := by decide +kernel
theorem dX3_join_5 : decode cX3_join 5 = .ok (.ifCond .eq 40, 3) := by decide +kernel
theorem dX3_join_8 : decode cX3_join 8 = .ok (.aload_n 0, 1) := by decide +kernel
theorem dX3_join_9 : decode cX3_join 9 = .ok (.iload_n 2, 1) := by decide +kernel
theorem dX3_join_10 : decode cX3_join 10 = .ok (.invokevirtual 46, 3) := by decide +kernel
theorem dX3_join_13 : decode cX3_join 13 = .ok (.ifCond .eq 32, 3) := by decide +kernel
theorem dX3_join_16 : decode cX3_join 16 = .ok (.iload_n 1, 1) := by decide +kernel
theorem dX3_join_17 : decode cX3_join 17 = .ok (.iload_n 2, 1) := by decide +kernel
theorem dX3_join_18 : decode cX3_join 18 = .ok (.if_icmp .eq 27, 3) := by decide +kernel
theorem dX3_join_21 : decode cX3_join 21 = .ok (.aload_n 0, 1) := by decide +kernel
theorem dX3_join_22 : decode cX3_join 22 = .ok (.getfield 9, 3) := by decide +kernel
theorem dX3_join_25 : decode cX3_join 25 = .ok (.iload_n 1, 1) := by decide +kernel
theorem dX3_join_26 : decode cX3_join 26 = .ok (.dup2, 1) := by decide +kernel
theorem dX3_join_27 : decode cX3_join 27 = .ok (.iaload, 1) := by decide +kernel
theorem dX3_join_28 : decode cX3_join 28 = .ok (.iconst 1, 1) := by decide +kernel
theorem dX3_join_29 : decode cX3_join 29 = .ok (.iload_n 2, 1) := by decide +kernel
theorem dX3_join_30 : decode cX3_join 30 = .ok (.ishl, 1) := by decide +kernel
theorem dX3_join_31 : decode cX3_join 31 = .ok (.ior, 1) := by decide +kernel
theorem dX3_join_32 : decode cX3_join 32 = .ok (.iastore, 1) := by decide +kernel
theorem dX3_join_33 : decode cX3_join 33 = .ok (.aload_n 0, 1) := by decide +kernel
theorem dX3_join_34 : decode cX3_join 34 = .ok (.getfield 9, 3) := by decide +kernel
theorem dX3_join_37 : decode cX3_join 37 = .ok (.iload_n 2, 1) := by decide +kernel
theorem dX3_join_38 : decode cX3_join 38 = .ok (.dup2, 1) := by decide +kernel
theorem dX3_join_39 : decode cX3_join 39 = .ok (.iaload, 1) := by decide +kernel
theorem dX3_join_40 : decode cX3_join 40 = .ok (.iconst 1, 1) := by decide +kernel
theorem dX3_join_41 : decode cX3_join 41 = .ok (.iload_n 1, 1) := by decide +kernel
theorem dX3_join_42 : decode cX3_join 42 = .ok (.ishl, 1) := by decide +kernel
theorem dX3_join_43 : decode cX3_join 43 = .ok (.ior, 1) := by decide +kernel
theorem dX3_join_44 : decode cX3_join 44 = .ok (.iastore, 1) := by decide +kernel
theorem dX3_join_45 : decode cX3_join 45 = .ok (.return_, 1) := by decide +kernel
theorem dX3_part_0 : decode cX3_part 0 = .ok (.aload_n 0, 1) := by decide +kernel
theorem dX3_part_1 : decode cX3_part 1 = .ok (.iload_n 1, 1) := by decide +kernel
theorem dX3_part_2 : decode cX3_part 2 = .ok (.invokevirtual 46, 3) := by decide +kernel
theorem dX3_part_5 : decode cX3_part 5 = .ok (.ifCond .eq 43, 3) := by decide +kernel
theorem dX3_part_8 : decode cX3_part 8 = .ok (.aload_n 0, 1) := by decide +kernel
theorem dX3_part_9 : decode cX3_part 9 = .ok (.iload_n 2, 1) := by decide +kernel
theorem dX3_part_10 : decode cX3_part 10 = .ok (.invokevirtual 46, 3) := by decide +kernel
theorem dX3_part_13 : decode cX3_part 13 = .ok (.ifCond .eq 35, 3) := by decide +kernel
theorem dX3_part_16 : decode cX3_part 16 = .ok (.aload_n 0, 1) := by decide +kernel
theorem dX3_part_17 : decode cX3_part 17 = .ok (.getfield 9, 3) := by decide +kernel
theorem dX3_part_20 : decode cX3_part 20 = .ok (.iload_n 1, 1) := by decide +kernel
theorem dX3_part_21 : decode cX3_part 21 = .ok (.aload_n 0, 1) := by decide +kernel
theorem dX3_part_22 : decode cX3_part 22 = .ok (.getfield 9, 3) := by decide +kernel
theorem dX3_part_25 : decode cX3_part 25 = .ok (.iload_n 1, 1) := by decide +kernel
theorem dX3_part_26 : decode cX3_part 26 = .ok (.iaload, 1) := by decide +kernel
theorem dX3_part_27 : decode cX3_part 27 = .ok (.iload_n 2, 1) := by decide +kernel
theorem dX3_part_28 : decode cX3_part 28 = .ok (.invokestatic 54, 3) := by decide +kernel
theorem dX3_part_31 : decode cX3_part 31 = .ok (.iastore, 1) := by decide +kernel
theorem dX3_part_32 : decode cX3_part 32 = .ok (.aload_n 0, 1) := by decide +kernel
theorem dX3_part_33 : decode cX3_part 33 = .ok (.getfield 9, 3) := by decide +kernel
theorem dX3_part_36 : decode cX3_part 36 = .ok (.iload_n 2, 1) := by decide +kernel
theorem dX3_part_37 : decode cX3_part 37 = .ok (.aload_n 0, 1) := by decide +kernel
theorem dX3_part_38 : decode cX3_part 38 = .ok (.getfield 9, 3) := by decide +kernel
theorem dX3_part_41 : decode cX3_part 41 = .ok (.iload_n 2, 1) := by decide +kernel
theorem dX3_part_42 : decode cX3_part 42 = .ok (.iaload, 1) := by decide +kernel
theorem dX3_part_43 : decode cX3_part 43 = .ok (.iload_n 1, 1) := by decide +kernel
theorem dX3_part_44 : decode cX3_part 44 = .ok (.invokestatic 54, 3) := by decide +kernel
theorem dX3_part_47 : decode cX3_part 47 = .ok (.iastore, 1) := by decide +kernel
theorem dX3_part_48 : decode cX3_part 48 = .ok (.return_, 1) := by decide +kernel
theorem dX3_exchange_0 : decode cX3_exchange 0 = .ok (.aload_n 0, 1) := by decide +kernel
theorem dX3_exchange_1 : decode cX3_exchange 1 = .ok (.iload_n 1, 1) := by decide +kernel
theorem dX3_exchange_2 : decode cX3_exchange 2 = .ok (.invokevirtual 46, 3) := by decide +kernel
theorem dX3_exchange_5 : decode cX3_exchange 5 = .ok (.ifCond .eq 11, 3) := by decide +kernel
theorem dX3_exchange_8 : decode cX3_exchange 8 = .ok (.aload_n 0, 1) := by decide +kernel
theorem dX3_exchange_9 : decode cX3_exchange 9 = .ok (.iload_n 2, 1) := by decide +kernel
theorem dX3_exchange_10 : decode cX3_exchange 10 = .ok (.invokevirtual 46, 3) := by decide +kernel
theorem dX3_exchange_13 : decode cX3_exchange 13 = .ok (.ifCond .ne 4, 3) := by decide +kernel
theorem dX3_exchange_16 : decode cX3_exchange 16 = .ok (.return_, 1) := by decide +kernel
theorem dX3_exchange_17 : decode cX3_exchange 17 = .ok (.iconst 0, 1) := by decide +kernel
theorem dX3_exchange_18 : decode cX3_exchange 18 = .ok (.istore_n 3, 1) := by decide +kernel
theorem dX3_exchange_19 : decode cX3_exchange 19 = .ok (.iload_n 3, 1) := by decide +kernel
theorem dX3_exchange_20 : decode cX3_exchange 20 = .ok (.aload_n 0, 1) := by decide +kernel
theorem dX3_exchange_21 : decode cX3_exchange 21 = .ok (.getfield 18, 3) := by decide +kernel
theorem dX3_exchange_24 : decode cX3_exchange 24 = .ok (.if_icmp .ge 48, 3) := by decide +kernel
theorem dX3_exchange_27 : decode cX3_exchange 27 = .ok (.aload_n 0, 1) := by decide +kernel
theorem dX3_exchange_28 : decode cX3_exchange 28 = .ok (.getfield 9, 3) := by decide +kernel
theorem dX3_exchange_31 : decode cX3_exchange 31 = .ok (.iload_n 3, 1) := by decide +kernel
theorem dX3_exchange_32 : decode cX3_exchange 32 = .ok (.iaload, 1) := by decide +kernel
theorem dX3_exchange_33 : decode cX3_exchange 33 = .ok (.iload_n 1, 1) := by decide +kernel
theorem dX3_exchange_34 : decode cX3_exchange 34 = .ok (.invokestatic 50, 3) := by decide +kernel
theorem dX3_exchange_37 : decode cX3_exchange 37 = .ok (.aload_n 0, 1) := by decide +kernel
theorem dX3_exchange_38 : decode cX3_exchange 38 = .ok (.getfield 9, 3) := by decide +kernel
theorem dX3_exchange_41 : decode cX3_exchange 41 = .ok (.iload_n 3, 1) := by decide +kernel
theorem dX3_exchange_42 : decode cX3_exchange 42 = .ok (.iaload, 1) := by decide +kernel
theorem dX3_exchange_43 : decode cX3_exchange 43 = .ok (.iload_n 2, 1) := by decide +kernel
theorem dX3_exchange_44 : decode cX3_exchange 44 = .ok (.invokestatic 50, 3) := by decide +kernel
theorem dX3_exchange_47 : decode cX3_exchange 47 = .ok (.if_icmp .eq 19, 3) := by decide +kernel
theorem dX3_exchange_50 : decode cX3_exchange 50 = .ok (.aload_n 0, 1) := by decide +kernel
theorem dX3_exchange_51 : decode cX3_exchange 51 = .ok (.getfield 9, 3) := by decide +kernel
theorem dX3_exchange_54 : decode cX3_exchange 54 = .ok (.iload_n 3, 1) := by decide +kernel
theorem dX3_exchange_55 : decode cX3_exchange 55 = .ok (.dup2, 1) := by decide +kernel
theorem dX3_exchange_56 : decode cX3_exchange 56 = .ok (.iaload, 1) := by decide +kernel
theorem dX3_exchange_57 : decode cX3_exchange 57 = .ok (.iconst 1, 1) := by decide +kernel
theorem dX3_exchange_58 : decode cX3_exchange 58 = .ok (.iload_n 1, 1) := by decide +kernel
theorem dX3_exchange_59 : decode cX3_exchange 59 = .ok (.ishl, 1) := by decide +kernel
theorem dX3_exchange_60 : decode cX3_exchange 60 = .ok (.iconst 1, 1) := by decide +kernel
theorem dX3_exchange_61 : decode cX3_exchange 61 = .ok (.iload_n 2, 1) := by decide +kernel
theorem dX3_exchange_62 : decode cX3_exchange 62 = .ok (.ishl, 1) := by decide +kernel
theorem dX3_exchange_63 : decode cX3_exchange 63 = .ok (.ior, 1) := by decide +kernel
theorem dX3_exchange_64 : decode cX3_exchange 64 = .ok (.ixor, 1) := by decide +kernel
theorem dX3_exchange_65 : decode cX3_exchange 65 = .ok (.iastore, 1) := by decide +kernel
theorem dX3_exchange_66 : decode cX3_exchange 66 = .ok (.iinc 3 1, 3) := by decide +kernel
theorem dX3_exchange_69 : decode cX3_exchange 69 = .ok (.goto (-50), 3) := by decide +kernel
theorem dX3_exchange_72 : decode cX3_exchange 72 = .ok (.aload_n 0, 1) := by decide +kernel
theorem dX3_exchange_73 : decode cX3_exchange 73 = .ok (.getfield 9, 3) := by decide +kernel
theorem dX3_exchange_76 : decode cX3_exchange 76 = .ok (.iload_n 1, 1) := by decide +kernel
theorem dX3_exchange_77 : decode cX3_exchange 77 = .ok (.iaload, 1) := by decide +kernel
theorem dX3_exchange_78 : decode cX3_exchange 78 = .ok (.istore_n 3, 1) := by decide +kernel
theorem dX3_exchange_79 : decode cX3_exchange 79 = .ok (.aload_n 0, 1) := by decide +kernel
theorem dX3_exchange_80 : decode cX3_exchange 80 = .ok (.getfield 9, 3) := by decide +kernel
theorem dX3_exchange_83 : decode cX3_exchange 83 = .ok (.iload_n 1, 1) := by decide +kernel
theorem dX3_exchange_84 : decode cX3_exchange 84 = .ok (.aload_n 0, 1) := by decide +kernel
theorem dX3_exchange_85 : decode cX3_exchange 85 = .ok (.getfield 9, 3) := by decide +kernel
theorem dX3_exchange_88 : decode cX3_exchange 88 = .ok (.iload_n 2, 1) := by decide +kernel
theorem dX3_exchange_89 : decode cX3_exchange 89 = .ok (.iaload, 1) := by decide +kernel
theorem dX3_exchange_90 : decode cX3_exchange 90 = .ok (.iastore, 1) := by decide +kernel
theorem dX3_exchange_91 : decode cX3_exchange 91 = .ok (.aload_n 0, 1) := by decide +kernel
theorem dX3_exchange_92 : decode cX3_exchange 92 = .ok (.getfield 9, 3) := by decide +kernel
theorem dX3_exchange_95 : decode cX3_exchange 95 = .ok (.iload_n 2, 1) := by decide +kernel
theorem dX3_exchange_96 : decode cX3_exchange 96 = .ok (.iload_n 3, 1) := by decide +kernel
theorem dX3_exchange_97 : decode cX3_exchange 97 = .ok (.iastore, 1) := by decide +kernel
theorem dX3_exchange_98 : decode cX3_exchange 98 = .ok (.return_, 1) := by decide +kernel
theorem dX3_weightOf_0 : decode cX3_weightOf 0 = .ok (.aload_n 0, 1) := by decide +kernel
theorem dX3_weightOf_1 : decode cX3_weightOf 1 = .ok (.iload_n 1, 1) := by decide +kernel
theorem dX3_weightOf_2 : decode cX3_weightOf 2 = .ok (.invokevirtual 46, 3) := by decide +kernel
theorem dX3_weightOf_5 : decode cX3_weightOf 5 = .ok (.ifCond .eq 12, 3) := by decide +kernel
theorem dX3_weightOf_8 : decode cX3_weightOf 8 = .ok (.aload_n 0, 1) := by decide +kernel
theorem dX3_weightOf_9 : decode cX3_weightOf 9 = .ok (.getfield 15, 3) := by decide +kernel
theorem dX3_weightOf_12 : decode cX3_weightOf 12 = .ok (.iload_n 1, 1) := by decide +kernel
theorem dX3_weightOf_13 : decode cX3_weightOf 13 = .ok (.iaload, 1) := by decide +kernel
theorem dX3_weightOf_14 : decode cX3_weightOf 14 = .ok (.goto 4, 3) := by decide +kernel
theorem dX3_weightOf_17 : decode cX3_weightOf 17 = .ok (.iconst 0, 1) := by decide +kernel
theorem dX3_weightOf_18 : decode cX3_weightOf 18 = .ok (.ireturn, 1) := by decide +kernel
theorem dX3_weigh_0 : decode cX3_weigh 0 = .ok (.aload_n 0, 1) := by decide +kernel
theorem dX3_weigh_1 : decode cX3_weigh 1 = .ok (.iload_n 1, 1) := by decide +kernel
theorem dX3_weigh_2 : decode cX3_weigh 2 = .ok (.invokevirtual 46, 3) := by decide +kernel
theorem dX3_weigh_5 : decode cX3_weigh 5 = .ok (.ifCond .eq 10, 3) := by decide +kernel
theorem dX3_weigh_8 : decode cX3_weigh 8 = .ok (.aload_n 0, 1) := by decide +kernel
theorem dX3_weigh_9 : decode cX3_weigh 9 = .ok (.getfield 15, 3) := by decide +kernel
theorem dX3_weigh_12 : decode cX3_weigh 12 = .ok (.iload_n 1, 1) := by decide +kernel
theorem dX3_weigh_13 : decode cX3_weigh 13 = .ok (.iload_n 2, 1) := by decide +kernel
theorem dX3_weigh_14 : decode cX3_weigh 14 = .ok (.iastore, 1) := by decide +kernel
theorem dX3_weigh_15 : decode cX3_weigh 15 = .ok (.return_, 1) := by decide +kernel
theorem dX3_weightOfSet_0 : decode cX3_weightOfSet 0 = .ok (.iconst 0, 1) := by decide +kernel
theorem dX3_weightOfSet_1 : decode cX3_weightOfSet 1 = .ok (.istore_n 2, 1) := by decide +kernel
theorem dX3_weightOfSet_2 : decode cX3_weightOfSet 2 = .ok (.iconst 0, 1) := by decide +kernel
theorem dX3_weightOfSet_3 : decode cX3_weightOfSet 3 = .ok (.istore_n 3, 1) := by decide +kernel
theorem dX3_weightOfSet_4 : decode cX3_weightOfSet 4 = .ok (.iload_n 3, 1) := by decide +kernel
theorem dX3_weightOfSet_5 : decode cX3_weightOfSet 5 = .ok (.aload_n 0, 1) := by decide +kernel
theorem dX3_weightOfSet_6 : decode cX3_weightOfSet 6 = .ok (.getfield 18, 3) := by decide +kernel
theorem dX3_weightOfSet_9 : decode cX3_weightOfSet 9 = .ok (.if_icmp .ge 26, 3) := by decide +kernel
theorem dX3_weightOfSet_12 : decode cX3_weightOfSet 12 = .ok (.iload_n 1, 1) := by decide +kernel
theorem dX3_weightOfSet_13 : decode cX3_weightOfSet 13 = .ok (.iload_n 3, 1) := by decide +kernel
theorem dX3_weightOfSet_14 : decode cX3_weightOfSet 14 = .ok (.invokestatic 50, 3) := by decide +kernel
theorem dX3_weightOfSet_17 : decode cX3_weightOfSet 17 = .ok (.ifCond .eq 12, 3) := by decide +kernel
theorem dX3_weightOfSet_20 : decode cX3_weightOfSet 20 = .ok (.iload_n 2, 1) := by decide +kernel
theorem dX3_weightOfSet_21 : decode cX3_weightOfSet 21 = .ok (.aload_n 0, 1) := by decide +kernel
theorem dX3_weightOfSet_22 : decode cX3_weightOfSet 22 = .ok (.getfield 15, 3) := by decide +kernel
theorem dX3_weightOfSet_25 : decode cX3_weightOfSet 25 = .ok (.iload_n 3, 1) := by decide +kernel
theorem dX3_weightOfSet_26 : decode cX3_weightOfSet 26 = .ok (.iaload, 1) := by decide +kernel
theorem dX3_weightOfSet_27 : decode cX3_weightOfSet 27 = .ok (.iadd, 1) := by decide +kernel
theorem dX3_weightOfSet_28 : decode cX3_weightOfSet 28 = .ok (.istore_n 2, 1) := by decide +kernel
theorem dX3_weightOfSet_29 : decode cX3_weightOfSet 29 = .ok (.iinc 3 1, 3) := by decide +kernel
theorem dX3_weightOfSet_32 : decode cX3_weightOfSet 32 = .ok (.goto (-28), 3) := by decide +kernel
theorem dX3_weightOfSet_35 : decode cX3_weightOfSet 35 = .ok (.iload_n 2, 1) := by decide +kernel
theorem dX3_weightOfSet_36 : decode cX3_weightOfSet 36 = .ok (.ireturn, 1) := by decide +kernel
theorem dX3_edges_0 : decode cX3_edges 0 = .ok (.iconst 0, 1) := by decide +kernel
theorem dX3_edges_1 : decode cX3_edges 1 = .ok (.istore_n 1, 1) := by decide +kernel
theorem dX3_edges_2 : decode cX3_edges 2 = .ok (.iconst 0, 1) := by decide +kernel
theorem dX3_edges_3 : decode cX3_edges 3 = .ok (.istore_n 2, 1) := by decide +kernel
theorem dX3_edges_4 : decode cX3_edges 4 = .ok (.iload_n 2, 1) := by decide +kernel
theorem dX3_edges_5 : decode cX3_edges 5 = .ok (.aload_n 0, 1) := by decide +kernel
theorem dX3_edges_6 : decode cX3_edges 6 = .ok (.getfield 18, 3) := by decide +kernel
theorem dX3_edges_9 : decode cX3_edges 9 = .ok (.if_icmp .ge 21, 3) := by decide +kernel
theorem dX3_edges_12 : decode cX3_edges 12 = .ok (.iload_n 1, 1) := by decide +kernel
theorem dX3_edges_13 : decode cX3_edges 13 = .ok (.aload_n 0, 1) := by decide +kernel
theorem dX3_edges_14 : decode cX3_edges 14 = .ok (.getfield 9, 3) := by decide +kernel
theorem dX3_edges_17 : decode cX3_edges 17 = .ok (.iload_n 2, 1) := by decide +kernel
theorem dX3_edges_18 : decode cX3_edges 18 = .ok (.iaload, 1) := by decide +kernel
theorem dX3_edges_19 : decode cX3_edges 19 = .ok (.invokestatic 37, 3) := by decide +kernel
theorem dX3_edges_22 : decode cX3_edges 22 = .ok (.iadd, 1) := by decide +kernel
theorem dX3_edges_23 : decode cX3_edges 23 = .ok (.istore_n 1, 1) := by decide +kernel
theorem dX3_edges_24 : decode cX3_edges 24 = .ok (.iinc 2 1, 3) := by decide +kernel
theorem dX3_edges_27 : decode cX3_edges 27 = .ok (.goto (-23), 3) := by decide +kernel
theorem dX3_edges_30 : decode cX3_edges 30 = .ok (.iload_n 1, 1) := by decide +kernel
theorem dX3_edges_31 : decode cX3_edges 31 = .ok (.iconst 2, 1) := by decide +kernel
theorem dX3_edges_32 : decode cX3_edges 32 = .ok (.idiv, 1) := by decide +kernel
theorem dX3_edges_33 : decode cX3_edges 33 = .ok (.ireturn, 1) := by decide +kernel
theorem dX3_setOfDegree_0 : decode cX3_setOfDegree 0 = .ok (.iconst 0, 1) := by decide +kernel
theorem dX3_setOfDegree_1 : decode cX3_setOfDegree 1 = .ok (.istore_n 3, 1) := by decide +kernel
theorem dX3_setOfDegree_2 : decode cX3_setOfDegree 2 = .ok (.iconst 0, 1) := by decide +kernel
theorem dX3_setOfDegree_3 : decode cX3_setOfDegree 3 = .ok (.istore 4, 2) := by decide +kernel
theorem dX3_setOfDegree_5 : decode cX3_setOfDegree 5 = .ok (.iload 4, 2) := by decide +kernel
theorem dX3_setOfDegree_7 : decode cX3_setOfDegree 7 = .ok (.aload_n 0, 1) := by decide +kernel
theorem dX3_setOfDegree_8 : decode cX3_setOfDegree 8 = .ok (.getfield 18, 3) := by decide +kernel
theorem dX3_setOfDegree_11 : decode cX3_setOfDegree 11 = .ok (.if_icmp .ge 39, 3) := by decide +kernel
theorem dX3_setOfDegree_14 : decode cX3_setOfDegree 14 = .ok (.iload_n 1, 1) := by decide +kernel
theorem dX3_setOfDegree_15 : decode cX3_setOfDegree 15 = .ok (.iload 4, 2) := by decide +kernel
theorem dX3_setOfDegree_17 : decode cX3_setOfDegree 17 = .ok (.invokestatic 50, 3) := by decide +kernel
theorem dX3_setOfDegree_20 : decode cX3_setOfDegree 20 = .ok (.ifCond .eq 24, 3) := by decide +kernel
theorem dX3_setOfDegree_23 : decode cX3_setOfDegree 23 = .ok (.aload_n 0, 1) := by decide +kernel
theorem dX3_setOfDegree_24 : decode cX3_setOfDegree 24 = .ok (.getfield 9, 3) := by decide +kernel
theorem dX3_setOfDegree_27 : decode cX3_setOfDegree 27 = .ok (.iload 4, 2) := by decide +kernel
theorem dX3_setOfDegree_29 : decode cX3_setOfDegree 29 = .ok (.iaload, 1) := by decide +kernel
theorem dX3_setOfDegree_30 : decode cX3_setOfDegree 30 = .ok (.invokestatic 37, 3) := by decide +kernel
theorem dX3_setOfDegree_33 : decode cX3_setOfDegree 33 = .ok (.iload_n 2, 1) := by decide +kernel
theorem dX3_setOfDegree_34 : decode cX3_setOfDegree 34 = .ok (.if_icmp .ne 10, 3) := by decide +kernel
theorem dX3_setOfDegree_37 : decode cX3_setOfDegree 37 = .ok (.iload_n 3, 1) := by decide +kernel
theorem dX3_setOfDegree_38 : decode cX3_setOfDegree 38 = .ok (.iconst 1, 1) := by decide +kernel
theorem dX3_setOfDegree_39 : decode cX3_setOfDegree 39 = .ok (.iload 4, 2) := by decide +kernel
theorem dX3_setOfDegree_41 : decode cX3_setOfDegree 41 = .ok (.ishl, 1) := by decide +kernel
theorem dX3_setOfDegree_42 : decode cX3_setOfDegree 42 = .ok (.ior, 1) := by decide +kernel
theorem dX3_setOfDegree_43 : decode cX3_setOfDegree 43 = .ok (.istore_n 3, 1) := by decide +kernel
theorem dX3_setOfDegree_44 : decode cX3_setOfDegree 44 = .ok (.iinc 4 1, 3) := by decide +kernel
theorem dX3_setOfDegree_47 : decode cX3_setOfDegree 47 = .ok (.goto (-42), 3) := by decide +kernel
theorem dX3_setOfDegree_50 : decode cX3_setOfDegree 50 = .ok (.iload_n 3, 1) := by decide +kernel
theorem dX3_setOfDegree_51 : decode cX3_setOfDegree 51 = .ok (.ireturn, 1) := by decide +kernel
theorem dX3_countOfDegree_0 : decode cX3_countOfDegree 0 = .ok (.aload_n 0, 1) := by decide +kernel
theorem dX3_countOfDegree_1 : decode cX3_countOfDegree 1 = .ok (.iload_n 1, 1) := by decide +kernel
theorem dX3_countOfDegree_2 : decode cX3_countOfDegree 2 = .ok (.iload_n 2, 1) := by decide +kernel
theorem dX3_countOfDegree_3 : decode cX3_countOfDegree 3 = .ok (.invokevirtual 58, 3) := by decide +kernel
theorem dX3_countOfDegree_6 : decode cX3_countOfDegree 6 = .ok (.invokestatic 37, 3) := by decide +kernel
theorem dX3_countOfDegree_9 : decode cX3_countOfDegree 9 = .ok (.ireturn, 1) := by decide +kernel
theorem dX3_dropLeaves_0 : decode cX3_dropLeaves 0 = .ok (.aload_n 0, 1) := by decide +kernel
theorem dX3_dropLeaves_1 : decode cX3_dropLeaves 1 = .ok (.aload_n 0, 1) := by decide +kernel
theorem dX3_dropLeaves_2 : decode cX3_dropLeaves 2 = .ok (.invokevirtual 61, 3) := by decide +kernel
theorem dX3_dropLeaves_5 : decode cX3_dropLeaves 5 = .ok (.iconst 1, 1) := by decide +kernel
theorem dX3_dropLeaves_6 : decode cX3_dropLeaves 6 = .ok (.invokevirtual 58, 3) := by decide +kernel
theorem dX3_dropLeaves_9 : decode cX3_dropLeaves 9 = .ok (.istore_n 1, 1) := by decide +kernel
theorem dX3_dropLeaves_10 : decode cX3_dropLeaves 10 = .ok (.iconst 0, 1) := by decide +kernel
theorem dX3_dropLeaves_11 : decode cX3_dropLeaves 11 = .ok (.istore_n 2, 1) := by decide +kernel
theorem dX3_dropLeaves_12 : decode cX3_dropLeaves 12 = .ok (.iload_n 2, 1) := by decide +kernel
theorem dX3_dropLeaves_13 : decode cX3_dropLeaves 13 = .ok (.aload_n 0, 1) := by decide +kernel
theorem dX3_dropLeaves_14 : decode cX3_dropLeaves 14 = .ok (.getfield 18, 3) := by decide +kernel
theorem dX3_dropLeaves_17 : decode cX3_dropLeaves 17 = .ok (.if_icmp .ge 31, 3) := by decide +kernel
theorem dX3_dropLeaves_20 : decode cX3_dropLeaves 20 = .ok (.iload_n 1, 1) := by decide +kernel
theorem dX3_dropLeaves_21 : decode cX3_dropLeaves 21 = .ok (.iload_n 2, 1) := by decide +kernel
theorem dX3_dropLeaves_22 : decode cX3_dropLeaves 22 = .ok (.invokestatic 50, 3) := by decide +kernel
theorem dX3_dropLeaves_25 : decode cX3_dropLeaves 25 = .ok (.ifCond .eq 17, 3) := by decide +kernel
theorem dX3_dropLeaves_28 : decode cX3_dropLeaves 28 = .ok (.aload_n 0, 1) := by decide +kernel
theorem dX3_dropLeaves_29 : decode cX3_dropLeaves 29 = .ok (.iload_n 2, 1) := by decide +kernel
theorem dX3_dropLeaves_30 : decode cX3_dropLeaves 30 = .ok (.aload_n 0, 1) := by decide +kernel
theorem dX3_dropLeaves_31 : decode cX3_dropLeaves 31 = .ok (.getfield 9, 3) := by decide +kernel
theorem dX3_dropLeaves_34 : decode cX3_dropLeaves 34 = .ok (.iload_n 2, 1) := by decide +kernel
theorem dX3_dropLeaves_35 : decode cX3_dropLeaves 35 = .ok (.iaload, 1) := by decide +kernel
theorem dX3_dropLeaves_36 : decode cX3_dropLeaves 36 = .ok (.invokestatic 65, 3) := by decide +kernel
theorem dX3_dropLeaves_39 : decode cX3_dropLeaves 39 = .ok (.invokevirtual 68, 3) := by decide +kernel
theorem dX3_dropLeaves_42 : decode cX3_dropLeaves 42 = .ok (.iinc 2 1, 3) := by decide +kernel
theorem dX3_dropLeaves_45 : decode cX3_dropLeaves 45 = .ok (.goto (-33), 3) := by decide +kernel
theorem dX3_dropLeaves_48 : decode cX3_dropLeaves 48 = .ok (.return_, 1) := by decide +kernel
theorem dX3_withNeighbors_0 : decode cX3_withNeighbors 0 = .ok (.iload_n 1, 1) := by decide +kernel
theorem dX3_withNeighbors_1 : decode cX3_withNeighbors 1 = .ok (.istore_n 2, 1) := by decide +kernel
theorem dX3_withNeighbors_2 : decode cX3_withNeighbors 2 = .ok (.iconst 0, 1) := by decide +kernel
theorem dX3_withNeighbors_3 : decode cX3_withNeighbors 3 = .ok (.istore_n 3, 1) := by decide +kernel
theorem dX3_withNeighbors_4 : decode cX3_withNeighbors 4 = .ok (.iload_n 3, 1) := by decide +kernel
theorem dX3_withNeighbors_5 : decode cX3_withNeighbors 5 = .ok (.aload_n 0, 1) := by decide +kernel
theorem dX3_withNeighbors_6 : decode cX3_withNeighbors 6 = .ok (.getfield 18, 3) := by decide +kernel
theorem dX3_withNeighbors_9 : decode cX3_withNeighbors 9 = .ok (.if_icmp .ge 26, 3) := by decide +kernel
theorem dX3_withNeighbors_12 : decode cX3_withNeighbors 12 = .ok (.iload_n 1, 1) := by decide +kernel
theorem dX3_withNeighbors_13 : decode cX3_withNeighbors 13 = .ok (.iload_n 3, 1) := by decide +kernel
theorem dX3_withNeighbors_14 : decode cX3_withNeighbors 14 = .ok (.invokestatic 50, 3) := by decide +kernel
theorem dX3_withNeighbors_17 : decode cX3_withNeighbors 17 = .ok (.ifCond .eq 12, 3) := by decide +kernel
theorem dX3_withNeighbors_20 : decode cX3_withNeighbors 20 = .ok (.iload_n 2, 1) := by decide +kernel
theorem dX3_withNeighbors_21 : decode cX3_withNeighbors 21 = .ok (.aload_n 0, 1) := by decide +kernel
theorem dX3_withNeighbors_22 : decode cX3_withNeighbors 22 = .ok (.getfield 9, 3) := by decide +kernel
theorem dX3_withNeighbors_25 : decode cX3_withNeighbors 25 = .ok (.iload_n 3, 1) := by decide +kernel
theorem dX3_withNeighbors_26 : decode cX3_withNeighbors 26 = .ok (.iaload, 1) := by decide +kernel
theorem dX3_withNeighbors_27 : decode cX3_withNeighbors 27 = .ok (.ior, 1) := by decide +kernel
theorem dX3_withNeighbors_28 : decode cX3_withNeighbors 28 = .ok (.istore_n 2, 1) := by decide +kernel
theorem dX3_withNeighbors_29 : decode cX3_withNeighbors 29 = .ok (.iinc 3 1, 3) := by decide +kernel
theorem dX3_withNeighbors_32 : decode cX3_withNeighbors 32 = .ok (.goto (-28), 3) := by decide +kernel
theorem dX3_withNeighbors_35 : decode cX3_withNeighbors 35 = .ok (.iload_n 2, 1) := by decide +kernel
theorem dX3_withNeighbors_36 : decode cX3_withNeighbors 36 = .ok (.ireturn, 1) := by decide +kernel
theorem dX3_reachable_0 : decode cX3_reachable 0 = .ok (.iconst 1, 1) := by decide +kernel
theorem dX3_reachable_1 : decode cX3_reachable 1 = .ok (.iload_n 1, 1) := by decide +kernel
theorem dX3_reachable_2 : decode cX3_reachable 2 = .ok (.ishl, 1) := by decide +kernel
theorem dX3_reachable_3 : decode cX3_reachable 3 = .ok (.istore_n 3, 1) := by decide +kernel
theorem dX3_reachable_4 : decode cX3_reachable 4 = .ok (.iconst 0, 1) := by decide +kernel
theorem dX3_reachable_5 : decode cX3_reachable 5 = .ok (.istore 4, 2) := by decide +kernel
theorem dX3_reachable_7 : decode cX3_reachable 7 = .ok (.iload 4, 2) := by decide +kernel
theorem dX3_reachable_9 : decode cX3_reachable 9 = .ok (.aload_n 0, 1) := by decide +kernel
theorem dX3_reachable_10 : decode cX3_reachable 10 = .ok (.getfield 18, 3) := by decide +kernel
theorem dX3_reachable_13 : decode cX3_reachable 13 = .ok (.if_icmp .ge 29, 3) := by decide +kernel
theorem dX3_reachable_16 : decode cX3_reachable 16 = .ok (.aload_n 0, 1) := by decide +kernel
theorem dX3_reachable_17 : decode cX3_reachable 17 = .ok (.iload_n 3, 1) := by decide +kernel
theorem dX3_reachable_18 : decode cX3_reachable 18 = .ok (.invokevirtual 72, 3) := by decide +kernel
theorem dX3_reachable_21 : decode cX3_reachable 21 = .ok (.iload_n 2, 1) := by decide +kernel
theorem dX3_reachable_22 : decode cX3_reachable 22 = .ok (.iand, 1) := by decide +kernel
theorem dX3_reachable_23 : decode cX3_reachable 23 = .ok (.istore 5, 2) := by decide +kernel
theorem dX3_reachable_25 : decode cX3_reachable 25 = .ok (.iload 5, 2) := by decide +kernel
theorem dX3_reachable_27 : decode cX3_reachable 27 = .ok (.iload_n 3, 1) := by decide +kernel
theorem dX3_reachable_28 : decode cX3_reachable 28 = .ok (.if_icmp .ne 5, 3) := by decide +kernel
theorem dX3_reachable_31 : decode cX3_reachable 31 = .ok (.iload_n 3, 1) := by decide +kernel
theorem dX3_reachable_32 : decode cX3_reachable 32 = .ok (.ireturn, 1) := by decide +kernel
theorem dX3_reachable_33 : decode cX3_reachable 33 = .ok (.iload 5, 2) := by decide +kernel
theorem dX3_reachable_35 : decode cX3_reachable 35 = .ok (.istore_n 3, 1) := by decide +kernel
theorem dX3_reachable_36 : decode cX3_reachable 36 = .ok (.iinc 4 1, 3) := by decide +kernel
theorem dX3_reachable_39 : decode cX3_reachable 39 = .ok (.goto (-32), 3) := by decide +kernel
theorem dX3_reachable_42 : decode cX3_reachable 42 = .ok (.iload_n 3, 1) := by decide +kernel
theorem dX3_reachable_43 : decode cX3_reachable 43 = .ok (.ireturn, 1) := by decide +kernel
theorem dX3_componentWith_0 : decode cX3_componentWith 0 = .ok (.aload_n 0, 1) := by decide +kernel
theorem dX3_componentWith_1 : decode cX3_componentWith 1 = .ok (.iload_n 1, 1) := by decide +kernel
theorem dX3_componentWith_2 : decode cX3_componentWith 2 = .ok (.aload_n 0, 1) := by decide +kernel
theorem dX3_componentWith_3 : decode cX3_componentWith 3 = .ok (.invokevirtual 61, 3) := by decide +kernel
theorem dX3_componentWith_6 : decode cX3_componentWith 6 = .ok (.invokevirtual 75, 3) := by decide +kernel
theorem dX3_componentWith_9 : decode cX3_componentWith 9 = .ok (.ireturn, 1) := by decide +kernel
theorem dX3_componentSet_0 : decode cX3_componentSet 0 = .ok (.aload_n 0, 1) := by decide +kernel
theorem dX3_componentSet_1 : decode cX3_componentSet 1 = .ok (.invokevirtual 61, 3) := by decide +kernel
theorem dX3_componentSet_4 : decode cX3_componentSet 4 = .ok (.istore_n 2, 1) := by decide +kernel
theorem dX3_componentSet_5 : decode cX3_componentSet 5 = .ok (.iconst 0, 1) := by decide +kernel
theorem dX3_componentSet_6 : decode cX3_componentSet 6 = .ok (.istore_n 3, 1) := by decide +kernel
theorem dX3_componentSet_7 : decode cX3_componentSet 7 = .ok (.iconst 0, 1) := by decide +kernel
theorem dX3_componentSet_8 : decode cX3_componentSet 8 = .ok (.istore 4, 2) := by decide +kernel
theorem dX3_componentSet_10 : decode cX3_componentSet 10 = .ok (.iload 4, 2) := by decide +kernel
theorem dX3_componentSet_12 : decode cX3_componentSet 12 = .ok (.aload_n 0, 1) := by decide +kernel
theorem dX3_componentSet_13 : decode cX3_componentSet 13 = .ok (.getfield 18, 3) := by decide +kernel
theorem dX3_componentSet_16 : decode cX3_componentSet 16 = .ok (.if_icmp .ge 44, 3) := by decide +kernel
theorem dX3_componentSet_19 : decode cX3_componentSet 19 = .ok (.iload_n 2, 1) := by decide +kernel
theorem dX3_componentSet_20 : decode cX3_componentSet 20 = .ok (.iload 4, 2) := by decide +kernel
theorem dX3_componentSet_22 : decode cX3_componentSet 22 = .ok (.invokestatic 50, 3) := by decide +kernel
theorem dX3_componentSet_25 : decode cX3_componentSet 25 = .ok (.ifCond .eq 29, 3) := by decide +kernel
theorem dX3_componentSet_28 : decode cX3_componentSet 28 = .ok (.aload_n 0, 1) := by decide +kernel
theorem dX3_componentSet_29 : decode cX3_componentSet 29 = .ok (.iload 4, 2) := by decide +kernel
theorem dX3_componentSet_31 : decode cX3_componentSet 31 = .ok (.invokevirtual 78, 3) := by decide +kernel
theorem dX3_componentSet_34 : decode cX3_componentSet 34 = .ok (.istore 5, 2) := by decide +kernel
theorem dX3_componentSet_36 : decode cX3_componentSet 36 = .ok (.iload_n 3, 1) := by decide +kernel
theorem dX3_componentSet_37 : decode cX3_componentSet 37 = .ok (.iload_n 1, 1) := by decide +kernel
theorem dX3_componentSet_38 : decode cX3_componentSet 38 = .ok (.if_icmp .ne 6, 3) := by decide +kernel
theorem dX3_componentSet_41 : decode cX3_componentSet 41 = .ok (.iload 5, 2) := by decide +kernel
theorem dX3_componentSet_43 : decode cX3_componentSet 43 = .ok (.ireturn, 1) := by decide +kernel
theorem dX3_componentSet_44 : decode cX3_componentSet 44 = .ok (.iload_n 2, 1) := by decide +kernel
theorem dX3_componentSet_45 : decode cX3_componentSet 45 = .ok (.iload 5, 2) := by decide +kernel
theorem dX3_componentSet_47 : decode cX3_componentSet 47 = .ok (.iconst (-1), 1) := by decide +kernel
theorem dX3_componentSet_48 : decode cX3_componentSet 48 = .ok (.ixor, 1) := by decide +kernel
theorem dX3_componentSet_49 : decode cX3_componentSet 49 = .ok (.iand, 1) := by decide +kernel
theorem dX3_componentSet_50 : decode cX3_componentSet 50 = .ok (.istore_n 2, 1) := by decide +kernel
theorem dX3_componentSet_51 : decode cX3_componentSet 51 = .ok (.iinc 3 1, 3) := by decide +kernel
theorem dX3_componentSet_54 : decode cX3_componentSet 54 = .ok (.iinc 4 1, 3) := by decide +kernel
theorem dX3_componentSet_57 : decode cX3_componentSet 57 = .ok (.goto (-47), 3) := by decide +kernel
theorem dX3_componentSet_60 : decode cX3_componentSet 60 = .ok (.iconst 0, 1) := by decide +kernel
theorem dX3_componentSet_61 : decode cX3_componentSet 61 = .ok (.ireturn, 1) := by decide +kernel
theorem dX3_componentNumber_0 : decode cX3_componentNumber 0 = .ok (.aload_n 0, 1) := by decide +kernel
theorem dX3_componentNumber_1 : decode cX3_componentNumber 1 = .ok (.iload_n 1, 1) := by decide +kernel
theorem dX3_componentNumber_2 : decode cX3_componentNumber 2 = .ok (.invokevirtual 78, 3) := by decide +kernel
theorem dX3_componentNumber_5 : decode cX3_componentNumber 5 = .ok (.invokestatic 65, 3) := by decide +kernel
theorem dX3_componentNumber_8 : decode cX3_componentNumber 8 = .ok (.istore_n 2, 1) := by decide +kernel
theorem dX3_componentNumber_9 : decode cX3_componentNumber 9 = .ok (.iconst 0, 1) := by decide +kernel
theorem dX3_componentNumber_10 : decode cX3_componentNumber 10 = .ok (.istore_n 3, 1) := by decide +kernel
theorem dX3_componentNumber_11 : decode cX3_componentNumber 11 = .ok (.iconst 0, 1) := by decide +kernel
theorem dX3_componentNumber_12 : decode cX3_componentNumber 12 = .ok (.istore 4, 2) := by decide +kernel
theorem dX3_componentNumber_14 : decode cX3_componentNumber 14 = .ok (.iload 4, 2) := by decide +kernel
theorem dX3_componentNumber_16 : decode cX3_componentNumber 16 = .ok (.iload_n 2, 1) := by decide +kernel
theorem dX3_componentNumber_17 : decode cX3_componentNumber 17 = .ok (.if_icmp .ge 26, 3) := by decide +kernel
theorem dX3_componentNumber_20 : decode cX3_componentNumber 20 = .ok (.aload_n 0, 1) := by decide +kernel
theorem dX3_componentNumber_21 : decode cX3_componentNumber 21 = .ok (.iload 4, 2) := by decide +kernel
theorem dX3_componentNumber_23 : decode cX3_componentNumber 23 = .ok (.invokevirtual 78, 3) := by decide +kernel
theorem dX3_componentNumber_26 : decode cX3_componentNumber 26 = .ok (.invokestatic 65, 3) := by decide +kernel
theorem dX3_componentNumber_29 : decode cX3_componentNumber 29 = .ok (.iload 4, 2) := by decide +kernel
theorem dX3_componentNumber_31 : decode cX3_componentNumber 31 = .ok (.if_icmp .ne 6, 3) := by decide +kernel
theorem dX3_componentNumber_34 : decode cX3_componentNumber 34 = .ok (.iinc 3 1, 3) := by decide +kernel
theorem dX3_componentNumber_37 : decode cX3_componentNumber 37 = .ok (.iinc 4 1, 3) := by decide +kernel
theorem dX3_componentNumber_40 : decode cX3_componentNumber 40 = .ok (.goto (-26), 3) := by decide +kernel
theorem dX3_componentNumber_43 : decode cX3_componentNumber 43 = .ok (.iload_n 3, 1) := by decide +kernel
theorem dX3_componentNumber_44 : decode cX3_componentNumber 44 = .ok (.ireturn, 1) := by decide +kernel
theorem dX3_components_0 : decode cX3_components 0 = .ok (.aload_n 0, 1) := by decide +kernel
theorem dX3_components_1 : decode cX3_components 1 = .ok (.getfield 18, 3) := by decide +kernel
theorem dX3_components_4 : decode cX3_components 4 = .ok (.aload_n 0, 1) := by decide +kernel
theorem dX3_components_5 : decode cX3_components 5 = .ok (.invokevirtual 81, 3) := by decide +kernel
theorem dX3_components_8 : decode cX3_components 8 = .ok (.isub, 1) := by decide +kernel
theorem dX3_components_9 : decode cX3_components 9 = .ok (.ireturn, 1) := by decide +kernel
theorem dX3_steps_0 : decode cX3_steps 0 = .ok (.iconst 1, 1) := by decide +kernel
theorem dX3_steps_1 : decode cX3_steps 1 = .ok (.iload_n 1, 1) := by decide +kernel
theorem dX3_steps_2 : decode cX3_steps 2 = .ok (.ishl, 1) := by decide +kernel
theorem dX3_steps_3 : decode cX3_steps 3 = .ok (.istore_n 3, 1) := by decide +kernel
theorem dX3_steps_4 : decode cX3_steps 4 = .ok (.iconst 0, 1) := by decide +kernel
theorem dX3_steps_5 : decode cX3_steps 5 = .ok (.istore 4, 2) := by decide +kernel
theorem dX3_steps_7 : decode cX3_steps 7 = .ok (.iload 4, 2) := by decide +kernel
theorem dX3_steps_9 : decode cX3_steps 9 = .ok (.aload_n 0, 1) := by decide +kernel
theorem dX3_steps_10 : decode cX3_steps 10 = .ok (.getfield 18, 3) := by decide +kernel
theorem dX3_steps_13 : decode cX3_steps 13 = .ok (.if_icmp .ge 26, 3) := by decide +kernel
theorem dX3_steps_16 : decode cX3_steps 16 = .ok (.iload_n 3, 1) := by decide +kernel
theorem dX3_steps_17 : decode cX3_steps 17 = .ok (.iload_n 2, 1) := by decide +kernel
theorem dX3_steps_18 : decode cX3_steps 18 = .ok (.invokestatic 50, 3) := by decide +kernel
theorem dX3_steps_21 : decode cX3_steps 21 = .ok (.ifCond .eq 6, 3) := by decide +kernel
theorem dX3_steps_24 : decode cX3_steps 24 = .ok (.iload 4, 2) := by decide +kernel
theorem dX3_steps_26 : decode cX3_steps 26 = .ok (.ireturn, 1) := by decide +kernel
theorem dX3_steps_27 : decode cX3_steps 27 = .ok (.aload_n 0, 1) := by decide +kernel
theorem dX3_steps_28 : decode cX3_steps 28 = .ok (.iload_n 3, 1) := by decide +kernel
theorem dX3_steps_29 : decode cX3_steps 29 = .ok (.invokevirtual 72, 3) := by decide +kernel
theorem dX3_steps_32 : decode cX3_steps 32 = .ok (.istore_n 3, 1) := by decide +kernel
theorem dX3_steps_33 : decode cX3_steps 33 = .ok (.iinc 4 1, 3) := by decide +kernel
theorem dX3_steps_36 : decode cX3_steps 36 = .ok (.goto (-29), 3) := by decide +kernel
theorem dX3_steps_39 : decode cX3_steps 39 = .ok (.iconst (-1), 1) := by decide +kernel
theorem dX3_steps_40 : decode cX3_steps 40 = .ok (.ireturn, 1) := by decide +kernel
theorem dX3_eccentricity_0 : decode cX3_eccentricity 0 = .ok (.iconst 1, 1) := by decide +kernel
theorem dX3_eccentricity_1 : decode cX3_eccentricity 1 = .ok (.iload_n 1, 1) := by decide +kernel
theorem dX3_eccentricity_2 : decode cX3_eccentricity 2 = .ok (.ishl, 1) := by decide +kernel
theorem dX3_eccentricity_3 : decode cX3_eccentricity 3 = .ok (.istore_n 2, 1) := by decide +kernel
theorem dX3_eccentricity_4 : decode cX3_eccentricity 4 = .ok (.iconst 0, 1) := by decide +kernel
theorem dX3_eccentricity_5 : decode cX3_eccentricity 5 = .ok (.istore_n 3, 1) := by decide +kernel
theorem dX3_eccentricity_6 : decode cX3_eccentricity 6 = .ok (.iload_n 3, 1) := by decide +kernel
theorem dX3_eccentricity_7 : decode cX3_eccentricity 7 = .ok (.aload_n 0, 1) := by decide +kernel
theorem dX3_eccentricity_8 : decode cX3_eccentricity 8 = .ok (.getfield 18, 3) := by decide +kernel
theorem dX3_eccentricity_11 : decode cX3_eccentricity 11 = .ok (.if_icmp .ge 27, 3) := by decide +kernel
theorem dX3_eccentricity_14 : decode cX3_eccentricity 14 = .ok (.aload_n 0, 1) := by decide +kernel
theorem dX3_eccentricity_15 : decode cX3_eccentricity 15 = .ok (.iload_n 2, 1) := by decide +kernel
theorem dX3_eccentricity_16 : decode cX3_eccentricity 16 = .ok (.invokevirtual 72, 3) := by decide +kernel
theorem dX3_eccentricity_19 : decode cX3_eccentricity 19 = .ok (.istore 4, 2) := by decide +kernel
theorem dX3_eccentricity_21 : decode cX3_eccentricity 21 = .ok (.iload 4, 2) := by decide +kernel
theorem dX3_eccentricity_23 : decode cX3_eccentricity 23 = .ok (.iload_n 2, 1) := by decide +kernel
theorem dX3_eccentricity_24 : decode cX3_eccentricity 24 = .ok (.if_icmp .ne 5, 3) := by decide +kernel
theorem dX3_eccentricity_27 : decode cX3_eccentricity 27 = .ok (.iload_n 3, 1) := by decide +kernel
theorem dX3_eccentricity_28 : decode cX3_eccentricity 28 = .ok (.ireturn, 1) := by decide +kernel
theorem dX3_eccentricity_29 : decode cX3_eccentricity 29 = .ok (.iload 4, 2) := by decide +kernel
theorem dX3_eccentricity_31 : decode cX3_eccentricity 31 = .ok (.istore_n 2, 1) := by decide +kernel
theorem dX3_eccentricity_32 : decode cX3_eccentricity 32 = .ok (.iinc 3 1, 3) := by decide +kernel
theorem dX3_eccentricity_35 : decode cX3_eccentricity 35 = .ok (.goto (-29), 3) := by decide +kernel
theorem dX3_eccentricity_38 : decode cX3_eccentricity 38 = .ok (.aload_n 0, 1) := by decide +kernel
theorem dX3_eccentricity_39 : decode cX3_eccentricity 39 = .ok (.getfield 18, 3) := by decide +kernel
theorem dX3_eccentricity_42 : decode cX3_eccentricity 42 = .ok (.iconst 1, 1) := by decide +kernel
theorem dX3_eccentricity_43 : decode cX3_eccentricity 43 = .ok (.isub, 1) := by decide +kernel
theorem dX3_eccentricity_44 : decode cX3_eccentricity 44 = .ok (.ireturn, 1) := by decide +kernel
theorem dX3_diameter_0 : decode cX3_diameter 0 = .ok (.iconst 0, 1) := by decide +kernel
theorem dX3_diameter_1 : decode cX3_diameter 1 = .ok (.istore_n 2, 1) := by decide +kernel
theorem dX3_diameter_2 : decode cX3_diameter 2 = .ok (.iconst 0, 1) := by decide +kernel
theorem dX3_diameter_3 : decode cX3_diameter 3 = .ok (.istore_n 3, 1) := by decide +kernel
theorem dX3_diameter_4 : decode cX3_diameter 4 = .ok (.iload_n 3, 1) := by decide +kernel
theorem dX3_diameter_5 : decode cX3_diameter 5 = .ok (.aload_n 0, 1) := by decide +kernel
theorem dX3_diameter_6 : decode cX3_diameter 6 = .ok (.getfield 18, 3) := by decide +kernel
theorem dX3_diameter_9 : decode cX3_diameter 9 = .ok (.if_icmp .ge 27, 3) := by decide +kernel
theorem dX3_diameter_12 : decode cX3_diameter 12 = .ok (.iload_n 1, 1) := by decide +kernel
theorem dX3_diameter_13 : decode cX3_diameter 13 = .ok (.iload_n 3, 1) := by decide +kernel
theorem dX3_diameter_14 : decode cX3_diameter 14 = .ok (.invokestatic 50, 3) := by decide +kernel
theorem dX3_diameter_17 : decode cX3_diameter 17 = .ok (.ifCond .eq 13, 3) := by decide +kernel
theorem dX3_diameter_20 : decode cX3_diameter 20 = .ok (.iload_n 2, 1) := by decide +kernel
theorem dX3_diameter_21 : decode cX3_diameter 21 = .ok (.aload_n 0, 1) := by decide +kernel
theorem dX3_diameter_22 : decode cX3_diameter 22 = .ok (.iload_n 3, 1) := by decide +kernel
theorem dX3_diameter_23 : decode cX3_diameter 23 = .ok (.invokevirtual 84, 3) := by decide +kernel
theorem dX3_diameter_26 : decode cX3_diameter 26 = .ok (.invokestatic 87, 3) := by decide +kernel
theorem dX3_diameter_29 : decode cX3_diameter 29 = .ok (.istore_n 2, 1) := by decide +kernel
theorem dX3_diameter_30 : decode cX3_diameter 30 = .ok (.iinc 3 1, 3) := by decide +kernel
theorem dX3_diameter_33 : decode cX3_diameter 33 = .ok (.goto (-29), 3) := by decide +kernel
theorem dX3_diameter_36 : decode cX3_diameter 36 = .ok (.iload_n 2, 1) := by decide +kernel
theorem dX3_diameter_37 : decode cX3_diameter 37 = .ok (.ireturn, 1) := by decide +kernel
theorem dX3_pathSet_0 : decode cX3_pathSet 0 = .ok (.aload_n 0, 1) := by decide +kernel
theorem dX3_pathSet_1 : decode cX3_pathSet 1 = .ok (.iload_n 1, 1) := by decide +kernel
theorem dX3_pathSet_2 : decode cX3_pathSet 2 = .ok (.iload_n 2, 1) := by decide +kernel
theorem dX3_pathSet_3 : decode cX3_pathSet 3 = .ok (.invokevirtual 92, 3) := by decide +kernel
theorem dX3_pathSet_6 : decode cX3_pathSet 6 = .ok (.istore_n 3, 1) := by decide +kernel
theorem dX3_pathSet_7 : decode cX3_pathSet 7 = .ok (.iconst 0, 1) := by decide +kernel
theorem dX3_pathSet_8 : decode cX3_pathSet 8 = .ok (.istore 4, 2) := by decide +kernel
theorem dX3_pathSet_10 : decode cX3_pathSet 10 = .ok (.iconst 0, 1) := by decide +kernel
theorem dX3_pathSet_11 : decode cX3_pathSet 11 = .ok (.istore 5, 2) := by decide +kernel
theorem dX3_pathSet_13 : decode cX3_pathSet 13 = .ok (.iload 5, 2) := by decide +kernel
theorem dX3_pathSet_15 : decode cX3_pathSet 15 = .ok (.aload_n 0, 1) := by decide +kernel
theorem dX3_pathSet_16 : decode cX3_pathSet 16 = .ok (.getfield 18, 3) := by decide +kernel
theorem dX3_pathSet_19 : decode cX3_pathSet 19 = .ok (.if_icmp .ge 42, 3) := by decide +kernel
theorem dX3_pathSet_22 : decode cX3_pathSet 22 = .ok (.iload_n 3, 1) := by decide +kernel
theorem dX3_pathSet_23 : decode cX3_pathSet 23 = .ok (.iconst (-1), 1) := by decide +kernel
theorem dX3_pathSet_24 : decode cX3_pathSet 24 = .ok (.if_icmp .eq 37, 3) := by decide +kernel
theorem dX3_pathSet_27 : decode cX3_pathSet 27 = .ok (.aload_n 0, 1) := by decide +kernel
theorem dX3_pathSet_28 : decode cX3_pathSet 28 = .ok (.iload_n 1, 1) := by decide +kernel
theorem dX3_pathSet_29 : decode cX3_pathSet 29 = .ok (.iload 5, 2) := by decide +kernel
theorem dX3_pathSet_31 : decode cX3_pathSet 31 = .ok (.invokevirtual 92, 3) := by decide +kernel
theorem dX3_pathSet_34 : decode cX3_pathSet 34 = .ok (.aload_n 0, 1) := by decide +kernel
theorem dX3_pathSet_35 : decode cX3_pathSet 35 = .ok (.iload 5, 2) := by decide +kernel
theorem dX3_pathSet_37 : decode cX3_pathSet 37 = .ok (.iload_n 2, 1) := by decide +kernel
theorem dX3_pathSet_38 : decode cX3_pathSet 38 = .ok (.invokevirtual 92, 3) := by decide +kernel
theorem dX3_pathSet_41 : decode cX3_pathSet 41 = .ok (.iadd, 1) := by decide +kernel
theorem dX3_pathSet_42 : decode cX3_pathSet 42 = .ok (.iload_n 3, 1) := by decide +kernel
theorem dX3_pathSet_43 : decode cX3_pathSet 43 = .ok (.if_icmp .ne 12, 3) := by decide +kernel
theorem dX3_pathSet_46 : decode cX3_pathSet 46 = .ok (.iload 4, 2) := by decide +kernel
theorem dX3_pathSet_48 : decode cX3_pathSet 48 = .ok (.iconst 1, 1) := by decide +kernel
theorem dX3_pathSet_49 : decode cX3_pathSet 49 = .ok (.iload 5, 2) := by decide +kernel
theorem dX3_pathSet_51 : decode cX3_pathSet 51 = .ok (.ishl, 1) := by decide +kernel
theorem dX3_pathSet_52 : decode cX3_pathSet 52 = .ok (.ior, 1) := by decide +kernel
theorem dX3_pathSet_53 : decode cX3_pathSet 53 = .ok (.istore 4, 2) := by decide +kernel
theorem dX3_pathSet_55 : decode cX3_pathSet 55 = .ok (.iinc 5 1, 3) := by decide +kernel
theorem dX3_pathSet_58 : decode cX3_pathSet 58 = .ok (.goto (-45), 3) := by decide +kernel
theorem dX3_pathSet_61 : decode cX3_pathSet 61 = .ok (.iload 4, 2) := by decide +kernel
theorem dX3_pathSet_63 : decode cX3_pathSet 63 = .ok (.ireturn, 1) := by decide +kernel
theorem dX3_pathVertex_0 : decode cX3_pathVertex 0 = .ok (.aload_n 0, 1) := by decide +kernel
theorem dX3_pathVertex_1 : decode cX3_pathVertex 1 = .ok (.iload_n 1, 1) := by decide +kernel
theorem dX3_pathVertex_2 : decode cX3_pathVertex 2 = .ok (.iload_n 2, 1) := by decide +kernel
theorem dX3_pathVertex_3 : decode cX3_pathVertex 3 = .ok (.invokevirtual 95, 3) := by decide +kernel
theorem dX3_pathVertex_6 : decode cX3_pathVertex 6 = .ok (.istore 4, 2) := by decide +kernel
theorem dX3_pathVertex_8 : decode cX3_pathVertex 8 = .ok (.iconst 0, 1) := by decide +kernel
theorem dX3_pathVertex_9 : decode cX3_pathVertex 9 = .ok (.istore 5, 2) := by decide +kernel
theorem dX3_pathVertex_11 : decode cX3_pathVertex 11 = .ok (.iload 5, 2) := by decide +kernel
theorem dX3_pathVertex_13 : decode cX3_pathVertex 13 = .ok (.aload_n 0, 1) := by decide +kernel
theorem dX3_pathVertex_14 : decode cX3_pathVertex 14 = .ok (.getfield 18, 3) := by decide +kernel
theorem dX3_pathVertex_17 : decode cX3_pathVertex 17 = .ok (.if_icmp .ge 33, 3) := by decide +kernel
theorem dX3_pathVertex_20 : decode cX3_pathVertex 20 = .ok (.iload 4, 2) := by decide +kernel
theorem dX3_pathVertex_22 : decode cX3_pathVertex 22 = .ok (.iload 5, 2) := by decide +kernel
theorem dX3_pathVertex_24 : decode cX3_pathVertex 24 = .ok (.invokestatic 50, 3) := by decide +kernel
theorem dX3_pathVertex_27 : decode cX3_pathVertex 27 = .ok (.ifCond .eq 17, 3) := by decide +kernel
theorem dX3_pathVertex_30 : decode cX3_pathVertex 30 = .ok (.aload_n 0, 1) := by decide +kernel
theorem dX3_pathVertex_31 : decode cX3_pathVertex 31 = .ok (.iload_n 1, 1) := by decide +kernel
theorem dX3_pathVertex_32 : decode cX3_pathVertex 32 = .ok (.iload 5, 2) := by decide +kernel
theorem dX3_pathVertex_34 : decode cX3_pathVertex 34 = .ok (.invokevirtual 92, 3) := by decide +kernel
theorem dX3_pathVertex_37 : decode cX3_pathVertex 37 = .ok (.iload_n 3, 1) := by decide +kernel
theorem dX3_pathVertex_38 : decode cX3_pathVertex 38 = .ok (.if_icmp .ne 6, 3) := by decide +kernel
theorem dX3_pathVertex_41 : decode cX3_pathVertex 41 = .ok (.iload 5, 2) := by decide +kernel
theorem dX3_pathVertex_43 : decode cX3_pathVertex 43 = .ok (.ireturn, 1) := by decide +kernel
theorem dX3_pathVertex_44 : decode cX3_pathVertex 44 = .ok (.iinc 5 1, 3) := by decide +kernel
theorem dX3_pathVertex_47 : decode cX3_pathVertex 47 = .ok (.goto (-36), 3) := by decide +kernel
theorem dX3_pathVertex_50 : decode cX3_pathVertex 50 = .ok (.iconst (-1), 1) := by decide +kernel
theorem dX3_pathVertex_51 : decode cX3_pathVertex 51 = .ok (.ireturn, 1) := by decide +kernel
theorem dX3_greatestPart_0 : decode cX3_greatestPart 0 = .ok (.aload_n 0, 1) := by decide +kernel
theorem dX3_greatestPart_1 : decode cX3_greatestPart 1 = .ok (.invokevirtual 61, 3) := by decide +kernel
theorem dX3_greatestPart_4 : decode cX3_greatestPart 4 = .ok (.iload_n 1, 1) := by decide +kernel
theorem dX3_greatestPart_5 : decode cX3_greatestPart 5 = .ok (.invokestatic 54, 3) := by decide +kernel
theorem dX3_greatestPart_8 : decode cX3_greatestPart 8 = .ok (.istore_n 3, 1) := by decide +kernel
theorem dX3_greatestPart_9 : decode cX3_greatestPart 9 = .ok (.iconst 0, 1) := by decide +kernel
theorem dX3_greatestPart_10 : decode cX3_greatestPart 10 = .ok (.istore 4, 2) := by decide +kernel
theorem dX3_greatestPart_12 : decode cX3_greatestPart 12 = .ok (.iconst 0, 1) := by decide +kernel
theorem dX3_greatestPart_13 : decode cX3_greatestPart 13 = .ok (.istore 5, 2) := by decide +kernel
theorem dX3_greatestPart_15 : decode cX3_greatestPart 15 = .ok (.iload 5, 2) := by decide +kernel
theorem dX3_greatestPart_17 : decode cX3_greatestPart 17 = .ok (.aload_n 0, 1) := by decide +kernel
theorem dX3_greatestPart_18 : decode cX3_greatestPart 18 = .ok (.getfield 18, 3) := by decide +kernel
theorem dX3_greatestPart_21 : decode cX3_greatestPart 21 = .ok (.if_icmp .ge 53, 3) := by decide +kernel
theorem dX3_greatestPart_24 : decode cX3_greatestPart 24 = .ok (.aload_n 0, 1) := by decide +kernel
theorem dX3_greatestPart_25 : decode cX3_greatestPart 25 = .ok (.iload_n 1, 1) := by decide +kernel
theorem dX3_greatestPart_26 : decode cX3_greatestPart 26 = .ok (.iload 5, 2) := by decide +kernel
theorem dX3_greatestPart_28 : decode cX3_greatestPart 28 = .ok (.invokevirtual 98, 3) := by decide +kernel
theorem dX3_greatestPart_31 : decode cX3_greatestPart 31 = .ok (.ifCond .eq 37, 3) := by decide +kernel
theorem dX3_greatestPart_34 : decode cX3_greatestPart 34 = .ok (.aload_n 0, 1) := by decide +kernel
theorem dX3_greatestPart_35 : decode cX3_greatestPart 35 = .ok (.iload 5, 2) := by decide +kernel
theorem dX3_greatestPart_37 : decode cX3_greatestPart 37 = .ok (.iload_n 3, 1) := by decide +kernel
theorem dX3_greatestPart_38 : decode cX3_greatestPart 38 = .ok (.invokevirtual 75, 3) := by decide +kernel
theorem dX3_greatestPart_41 : decode cX3_greatestPart 41 = .ok (.istore 6, 2) := by decide +kernel
theorem dX3_greatestPart_43 : decode cX3_greatestPart 43 = .ok (.iload 4, 2) := by decide +kernel
theorem dX3_greatestPart_45 : decode cX3_greatestPart 45 = .ok (.iload_n 2, 1) := by decide +kernel
theorem dX3_greatestPart_46 : decode cX3_greatestPart 46 = .ok (.ifCond .eq 12, 3) := by decide +kernel
theorem dX3_greatestPart_49 : decode cX3_greatestPart 49 = .ok (.aload_n 0, 1) := by decide +kernel
theorem dX3_greatestPart_50 : decode cX3_greatestPart 50 = .ok (.iload 6, 2) := by decide +kernel
theorem dX3_greatestPart_52 : decode cX3_greatestPart 52 = .ok (.invokevirtual 101, 3) := by decide +kernel
theorem dX3_greatestPart_55 : decode cX3_greatestPart 55 = .ok (.goto 8, 3) := by decide +kernel
theorem dX3_greatestPart_58 : decode cX3_greatestPart 58 = .ok (.iload 6, 2) := by decide +kernel
theorem dX3_greatestPart_60 : decode cX3_greatestPart 60 = .ok (.invokestatic 37, 3) := by decide +kernel
theorem dX3_greatestPart_63 : decode cX3_greatestPart 63 = .ok (.invokestatic 87, 3) := by decide +kernel
theorem dX3_greatestPart_66 : decode cX3_greatestPart 66 = .ok (.istore 4, 2) := by decide +kernel
theorem dX3_greatestPart_68 : decode cX3_greatestPart 68 = .ok (.iinc 5 1, 3) := by decide +kernel
theorem dX3_greatestPart_71 : decode cX3_greatestPart 71 = .ok (.goto (-56), 3) := by decide +kernel
theorem dX3_greatestPart_74 : decode cX3_greatestPart 74 = .ok (.iload 4, 2) := by decide +kernel
theorem dX3_greatestPart_76 : decode cX3_greatestPart 76 = .ok (.ireturn, 1) := by decide +kernel
theorem dX3_measure_0 : decode cX3_measure 0 = .ok (.iload_n 2, 1) := by decide +kernel
theorem dX3_measure_1 : decode cX3_measure 1 = .ok (.ifCond .ne 11, 3) := by decide +kernel
theorem dX3_measure_4 : decode cX3_measure 4 = .ok (.aload_n 0, 1) := by decide +kernel
theorem dX3_measure_5 : decode cX3_measure 5 = .ok (.iload_n 1, 1) := by decide +kernel
theorem dX3_measure_6 : decode cX3_measure 6 = .ok (.invokevirtual 84, 3) := by decide +kernel
theorem dX3_measure_9 : decode cX3_measure 9 = .ok (.goto 18, 3) := by decide +kernel
theorem dX3_measure_12 : decode cX3_measure 12 = .ok (.aload_n 0, 1) := by decide +kernel
theorem dX3_measure_13 : decode cX3_measure 13 = .ok (.iload_n 1, 1) := by decide +kernel
theorem dX3_measure_14 : decode cX3_measure 14 = .ok (.iload_n 2, 1) := by decide +kernel
theorem dX3_measure_15 : decode cX3_measure 15 = .ok (.iconst 2, 1) := by decide +kernel
theorem dX3_measure_16 : decode cX3_measure 16 = .ok (.if_icmp .ne 7, 3) := by decide +kernel
theorem dX3_measure_19 : decode cX3_measure 19 = .ok (.iconst 1, 1) := by decide +kernel
theorem dX3_measure_20 : decode cX3_measure 20 = .ok (.goto 4, 3) := by decide +kernel
theorem dX3_measure_23 : decode cX3_measure 23 = .ok (.iconst 0, 1) := by decide +kernel
theorem dX3_measure_24 : decode cX3_measure 24 = .ok (.invokevirtual 104, 3) := by decide +kernel
theorem dX3_measure_27 : decode cX3_measure 27 = .ok (.ireturn, 1) := by decide +kernel
theorem dX3_leastBy_0 : decode cX3_leastBy 0 = .ok (.iconst 0, 1) := by decide +kernel
theorem dX3_leastBy_1 : decode cX3_leastBy 1 = .ok (.istore_n 3, 1) := by decide +kernel
theorem dX3_leastBy_2 : decode cX3_leastBy 2 = .ok (.iconst 0, 1) := by decide +kernel
theorem dX3_leastBy_3 : decode cX3_leastBy 3 = .ok (.istore 4, 2) := by decide +kernel
theorem dX3_leastBy_5 : decode cX3_leastBy 5 = .ok (.iconst 0, 1) := by decide +kernel
theorem dX3_leastBy_6 : decode cX3_leastBy 6 = .ok (.istore 5, 2) := by decide +kernel
theorem dX3_leastBy_8 : decode cX3_leastBy 8 = .ok (.iload 5, 2) := by decide +kernel
theorem dX3_leastBy_10 : decode cX3_leastBy 10 = .ok (.aload_n 0, 1) := by decide +kernel
theorem dX3_leastBy_11 : decode cX3_leastBy 11 = .ok (.getfield 18, 3) := by decide +kernel
theorem dX3_leastBy_14 : decode cX3_leastBy 14 = .ok (.if_icmp .ge 65, 3) := by decide +kernel
theorem dX3_leastBy_17 : decode cX3_leastBy 17 = .ok (.iload_n 1, 1) := by decide +kernel
theorem dX3_leastBy_18 : decode cX3_leastBy 18 = .ok (.iload 5, 2) := by decide +kernel
theorem dX3_leastBy_20 : decode cX3_leastBy 20 = .ok (.invokestatic 50, 3) := by decide +kernel
theorem dX3_leastBy_23 : decode cX3_leastBy 23 = .ok (.ifCond .eq 50, 3) := by decide +kernel
theorem dX3_leastBy_26 : decode cX3_leastBy 26 = .ok (.aload_n 0, 1) := by decide +kernel
theorem dX3_leastBy_27 : decode cX3_leastBy 27 = .ok (.iload 5, 2) := by decide +kernel
theorem dX3_leastBy_29 : decode cX3_leastBy 29 = .ok (.iload_n 2, 1) := by decide +kernel
theorem dX3_leastBy_30 : decode cX3_leastBy 30 = .ok (.invokevirtual 108, 3) := by decide +kernel
theorem dX3_leastBy_33 : decode cX3_leastBy 33 = .ok (.istore 6, 2) := by decide +kernel
theorem dX3_leastBy_35 : decode cX3_leastBy 35 = .ok (.iload 4, 2) := by decide +kernel
theorem dX3_leastBy_37 : decode cX3_leastBy 37 = .ok (.ifCond .eq 9, 3) := by decide +kernel
theorem dX3_leastBy_40 : decode cX3_leastBy 40 = .ok (.iload 6, 2) := by decide +kernel
theorem dX3_leastBy_42 : decode cX3_leastBy 42 = .ok (.iload_n 3, 1) := by decide +kernel
theorem dX3_leastBy_43 : decode cX3_leastBy 43 = .ok (.if_icmp .ge 15, 3) := by decide +kernel
theorem dX3_leastBy_46 : decode cX3_leastBy 46 = .ok (.iload 6, 2) := by decide +kernel
theorem dX3_leastBy_48 : decode cX3_leastBy 48 = .ok (.istore_n 3, 1) := by decide +kernel
theorem dX3_leastBy_49 : decode cX3_leastBy 49 = .ok (.iconst 1, 1) := by decide +kernel
theorem dX3_leastBy_50 : decode cX3_leastBy 50 = .ok (.iload 5, 2) := by decide +kernel
theorem dX3_leastBy_52 : decode cX3_leastBy 52 = .ok (.ishl, 1) := by decide +kernel
theorem dX3_leastBy_53 : decode cX3_leastBy 53 = .ok (.istore 4, 2) := by decide +kernel
theorem dX3_leastBy_55 : decode cX3_leastBy 55 = .ok (.goto 18, 3) := by decide +kernel
theorem dX3_leastBy_58 : decode cX3_leastBy 58 = .ok (.iload 6, 2) := by decide +kernel
theorem dX3_leastBy_60 : decode cX3_leastBy 60 = .ok (.iload_n 3, 1) := by decide +kernel
theorem dX3_leastBy_61 : decode cX3_leastBy 61 = .ok (.if_icmp .ne 12, 3) := by decide +kernel
theorem dX3_leastBy_64 : decode cX3_leastBy 64 = .ok (.iload 4, 2) := by decide +kernel
theorem dX3_leastBy_66 : decode cX3_leastBy 66 = .ok (.iconst 1, 1) := by decide +kernel
theorem dX3_leastBy_67 : decode cX3_leastBy 67 = .ok (.iload 5, 2) := by decide +kernel
theorem dX3_leastBy_69 : decode cX3_leastBy 69 = .ok (.ishl, 1) := by decide +kernel
theorem dX3_leastBy_70 : decode cX3_leastBy 70 = .ok (.ior, 1) := by decide +kernel
theorem dX3_leastBy_71 : decode cX3_leastBy 71 = .ok (.istore 4, 2) := by decide +kernel
theorem dX3_leastBy_73 : decode cX3_leastBy 73 = .ok (.iinc 5 1, 3) := by decide +kernel
theorem dX3_leastBy_76 : decode cX3_leastBy 76 = .ok (.goto (-68), 3) := by decide +kernel
theorem dX3_leastBy_79 : decode cX3_leastBy 79 = .ok (.iload 4, 2) := by decide +kernel
theorem dX3_leastBy_81 : decode cX3_leastBy 81 = .ok (.ireturn, 1) := by decide +kernel
theorem dX4_init_0 : decode cX4_init 0 = .ok (.aload_n 0, 1) := by decide +kernel
theorem dX4_init_1 : decode cX4_init 1 = .ok (.invokespecial 3, 3) := by decide +kernel
theorem dX4_init_4 : decode cX4_init 4 = .ok (.aload_n 0, 1) := by decide +kernel
theorem dX4_init_5 : decode cX4_init 5 = .ok (.bipush 10, 2) := by decide +kernel
theorem dX4_init_7 : decode cX4_init 7 = .ok (.newarray .int, 2) := by decide +kernel
theorem dX4_init_9 : decode cX4_init 9 = .ok (.putfield 9, 3) := by decide +kernel
theorem dX4_init_12 : decode cX4_init 12 = .ok (.return_, 1) := by decide +kernel
theorem dX4_forget_0 : decode cX4_forget 0 = .ok (.aload_n 0, 1) := by decide +kernel
theorem dX4_forget_1 : decode cX4_forget 1 = .ok (.iconst 0, 1) := by decide +kernel
theorem dX4_forget_2 : decode cX4_forget 2 = .ok (.putfield 15, 3) := by decide +kernel
theorem dX4_forget_5 : decode cX4_forget 5 = .ok (.return_, 1) := by decide +kernel
theorem dX4_numberOf_0 : decode cX4_numberOf 0 = .ok (.iconst 0, 1) := by decide +kernel
theorem dX4_numberOf_1 : decode cX4_numberOf 1 = .ok (.istore_n 2, 1) := by decide +kernel
theorem dX4_numberOf_2 : decode cX4_numberOf 2 = .ok (.iload_n 2, 1) := by decide +kernel
theorem dX4_numberOf_3 : decode cX4_numberOf 3 = .ok (.aload_n 0, 1) := by decide +kernel
theorem dX4_numberOf_4 : decode cX4_numberOf 4 = .ok (.getfield 15, 3) := by decide +kernel
theorem dX4_numberOf_7 : decode cX4_numberOf 7 = .ok (.if_icmp .ge 27, 3) := by decide +kernel
theorem dX4_numberOf_10 : decode cX4_numberOf 10 = .ok (.iload_n 2, 1) := by decide +kernel
theorem dX4_numberOf_11 : decode cX4_numberOf 11 = .ok (.bipush 10, 2) := by decide +kernel
theorem dX4_numberOf_13 : decode cX4_numberOf 13 = .ok (.if_icmp .ge 21, 3) := by decide +kernel
theorem dX4_numberOf_16 : decode cX4_numberOf 16 = .ok (.aload_n 0, 1) := by decide +kernel
theorem dX4_numberOf_17 : decode cX4_numberOf 17 = .ok (.getfield 9, 3) := by decide +kernel
theorem dX4_numberOf_20 : decode cX4_numberOf 20 = .ok (.iload_n 2, 1) := by decide +kernel
theorem dX4_numberOf_21 : decode cX4_numberOf 21 = .ok (.iaload, 1) := by decide +kernel
theorem dX4_numberOf_22 : decode cX4_numberOf 22 = .ok (.iload_n 1, 1) := by decide +kernel
theorem dX4_numberOf_23 : decode cX4_numberOf 23 = .ok (.if_icmp .ne 5, 3) := by decide +kernel
theorem dX4_numberOf_26 : decode cX4_numberOf 26 = .ok (.iload_n 2, 1) := by decide +kernel
theorem dX4_numberOf_27 : decode cX4_numberOf 27 = .ok (.ireturn, 1) := by decide +kernel
theorem dX4_numberOf_28 : decode cX4_numberOf 28 = .ok (.iinc 2 1, 3) := by decide +kernel
theorem dX4_numberOf_31 : decode cX4_numberOf 31 = .ok (.goto (-29), 3) := by decide +kernel
theorem dX4_numberOf_34 : decode cX4_numberOf 34 = .ok (.aload_n 0, 1) := by decide +kernel
theorem dX4_numberOf_35 : decode cX4_numberOf 35 = .ok (.getfield 15, 3) := by decide +kernel
theorem dX4_numberOf_38 : decode cX4_numberOf 38 = .ok (.bipush 10, 2) := by decide +kernel
theorem dX4_numberOf_40 : decode cX4_numberOf 40 = .ok (.if_icmp .lt 5, 3) := by decide +kernel
theorem dX4_numberOf_43 : decode cX4_numberOf 43 = .ok (.iconst (-1), 1) := by decide +kernel
theorem dX4_numberOf_44 : decode cX4_numberOf 44 = .ok (.ireturn, 1) := by decide +kernel
theorem dX4_numberOf_45 : decode cX4_numberOf 45 = .ok (.aload_n 0, 1) := by decide +kernel
theorem dX4_numberOf_46 : decode cX4_numberOf 46 = .ok (.getfield 9, 3) := by decide +kernel
theorem dX4_numberOf_49 : decode cX4_numberOf 49 = .ok (.aload_n 0, 1) := by decide +kernel
theorem dX4_numberOf_50 : decode cX4_numberOf 50 = .ok (.getfield 15, 3) := by decide +kernel
theorem dX4_numberOf_53 : decode cX4_numberOf 53 = .ok (.iload_n 1, 1) := by decide +kernel
theorem dX4_numberOf_54 : decode cX4_numberOf 54 = .ok (.iastore, 1) := by decide +kernel
theorem dX4_numberOf_55 : decode cX4_numberOf 55 = .ok (.aload_n 0, 1) := by decide +kernel
theorem dX4_numberOf_56 : decode cX4_numberOf 56 = .ok (.dup, 1) := by decide +kernel
theorem dX4_numberOf_57 : decode cX4_numberOf 57 = .ok (.getfield 15, 3) := by decide +kernel
theorem dX4_numberOf_60 : decode cX4_numberOf 60 = .ok (.iconst 1, 1) := by decide +kernel
theorem dX4_numberOf_61 : decode cX4_numberOf 61 = .ok (.iadd, 1) := by decide +kernel
theorem dX4_numberOf_62 : decode cX4_numberOf 62 = .ok (.putfield 15, 3) := by decide +kernel
theorem dX4_numberOf_65 : decode cX4_numberOf 65 = .ok (.aload_n 0, 1) := by decide +kernel
theorem dX4_numberOf_66 : decode cX4_numberOf 66 = .ok (.getfield 15, 3) := by decide +kernel
theorem dX4_numberOf_69 : decode cX4_numberOf 69 = .ok (.iconst 1, 1) := by decide +kernel
theorem dX4_numberOf_70 : decode cX4_numberOf 70 = .ok (.isub, 1) := by decide +kernel
theorem dX4_numberOf_71 : decode cX4_numberOf 71 = .ok (.ireturn, 1) := by decide +kernel
theorem dX5_init_0 : decode cX5_init 0 = .ok (.aload_n 0, 1) := by decide +kernel
theorem dX5_init_1 : decode cX5_init 1 = .ok (.invokespecial 3, 3) := by decide +kernel
theorem dX5_init_4 : decode cX5_init 4 = .ok (.aload_n 0, 1) := by decide +kernel
theorem dX5_init_5 : decode cX5_init 5 = .ok (.bipush 8, 2) := by decide +kernel
theorem dX5_init_7 : decode cX5_init 7 = .ok (.bipush 20, 2) := by decide +kernel
theorem dX5_init_9 : decode cX5_init 9 = .ok (.multianewarray 9 2, 4) := by decide +kernel
theorem dX5_init_13 : decode cX5_init 13 = .ok (.putfield 11, 3) := by decide +kernel
theorem dX5_init_16 : decode cX5_init 16 = .ok (.aload_n 0, 1) := by decide +kernel
theorem dX5_init_17 : decode cX5_init 17 = .ok (.iconst 3, 1) := by decide +kernel
theorem dX5_init_18 : decode cX5_init 18 = .ok (.bipush 20, 2) := by decide +kernel
theorem dX5_init_20 : decode cX5_init 20 = .ok (.multianewarray 9 2, 4) := by decide +kernel
theorem dX5_init_24 : decode cX5_init 24 = .ok (.putfield 16, 3) := by decide +kernel
theorem dX5_init_27 : decode cX5_init 27 = .ok (.return_, 1) := by decide +kernel
theorem dX5_forget_0 : decode cX5_forget 0 = .ok (.aload_n 0, 1) := by decide +kernel
theorem dX5_forget_1 : decode cX5_forget 1 = .ok (.iconst 0, 1) := by decide +kernel
theorem dX5_forget_2 : decode cX5_forget 2 = .ok (.putfield 19, 3) := by decide +kernel
theorem dX5_forget_5 : decode cX5_forget 5 = .ok (.aload_n 0, 1) := by decide +kernel
theorem dX5_forget_6 : decode cX5_forget 6 = .ok (.iconst 0, 1) := by decide +kernel
theorem dX5_forget_7 : decode cX5_forget 7 = .ok (.putfield 23, 3) := by decide +kernel
theorem dX5_forget_10 : decode cX5_forget 10 = .ok (.return_, 1) := by decide +kernel
theorem dX5_record_0 : decode cX5_record 0 = .ok (.aload_n 0, 1) := by decide +kernel
theorem dX5_record_1 : decode cX5_record 1 = .ok (.getfield 26, 3) := by decide +kernel
theorem dX5_record_4 : decode cX5_record 4 = .ok (.bipush 8, 2) := by decide +kernel
theorem dX5_record_6 : decode cX5_record 6 = .ok (.invokestatic 29, 3) := by decide +kernel
theorem dX5_record_9 : decode cX5_record 9 = .ok (.istore_n 2, 1) := by decide +kernel
theorem dX5_record_10 : decode cX5_record 10 = .ok (.aload_n 1, 1) := by decide +kernel
theorem dX5_record_11 : decode cX5_record 11 = .ok (.aload_n 0, 1) := by decide +kernel
theorem dX5_record_12 : decode cX5_record 12 = .ok (.getfield 11, 3) := by decide +kernel
theorem dX5_record_15 : decode cX5_record 15 = .ok (.iload_n 2, 1) := by decide +kernel
theorem dX5_record_16 : decode cX5_record 16 = .ok (.aaload, 1) := by decide +kernel
theorem dX5_record_17 : decode cX5_record 17 = .ok (.invokevirtual 35, 3) := by decide +kernel
theorem dX5_record_20 : decode cX5_record 20 = .ok (.aload_n 0, 1) := by decide +kernel
theorem dX5_record_21 : decode cX5_record 21 = .ok (.iload_n 2, 1) := by decide +kernel
theorem dX5_record_22 : decode cX5_record 22 = .ok (.iconst 1, 1) := by decide +kernel
theorem dX5_record_23 : decode cX5_record 23 = .ok (.iadd, 1) := by decide +kernel
theorem dX5_record_24 : decode cX5_record 24 = .ok (.bipush 8, 2) := by decide +kernel
theorem dX5_record_26 : decode cX5_record 26 = .ok (.invokestatic 29, 3) := by decide +kernel
theorem dX5_record_29 : decode cX5_record 29 = .ok (.putfield 26, 3) := by decide +kernel
theorem dX5_record_32 : decode cX5_record 32 = .ok (.aload_n 0, 1) := by decide +kernel
theorem dX5_record_33 : decode cX5_record 33 = .ok (.aload_n 0, 1) := by decide +kernel
theorem dX5_record_34 : decode cX5_record 34 = .ok (.getfield 19, 3) := by decide +kernel
theorem dX5_record_37 : decode cX5_record 37 = .ok (.iconst 1, 1) := by decide +kernel
theorem dX5_record_38 : decode cX5_record 38 = .ok (.iadd, 1) := by decide +kernel
theorem dX5_record_39 : decode cX5_record 39 = .ok (.bipush 8, 2) := by decide +kernel
theorem dX5_record_41 : decode cX5_record 41 = .ok (.invokestatic 41, 3) := by decide +kernel
theorem dX5_record_44 : decode cX5_record 44 = .ok (.putfield 19, 3) := by decide +kernel
theorem dX5_record_47 : decode cX5_record 47 = .ok (.aload_n 0, 1) := by decide +kernel
theorem dX5_record_48 : decode cX5_record 48 = .ok (.getfield 11, 3) := by decide +kernel
theorem dX5_record_51 : decode cX5_record 51 = .ok (.iload_n 2, 1) := by decide +kernel
theorem dX5_record_52 : decode cX5_record 52 = .ok (.aaload, 1) := by decide +kernel
theorem dX5_record_53 : decode cX5_record 53 = .ok (.areturn, 1) := by decide +kernel
theorem dX5_takeBack_0 : decode cX5_takeBack 0 = .ok (.aload_n 0, 1) := by decide +kernel
theorem dX5_takeBack_1 : decode cX5_takeBack 1 = .ok (.getfield 19, 3) := by decide +kernel
theorem dX5_takeBack_4 : decode cX5_takeBack 4 = .ok (.ifCond .ne 5, 3) := by decide +kernel
theorem dX5_takeBack_7 : decode cX5_takeBack 7 = .ok (.iconst 0, 1) := by decide +kernel
theorem dX5_takeBack_8 : decode cX5_takeBack 8 = .ok (.ireturn, 1) := by decide +kernel
theorem dX5_takeBack_9 : decode cX5_takeBack 9 = .ok (.aload_n 0, 1) := by decide +kernel
theorem dX5_takeBack_10 : decode cX5_takeBack 10 = .ok (.aload_n 0, 1) := by decide +kernel
theorem dX5_takeBack_11 : decode cX5_takeBack 11 = .ok (.getfield 26, 3) := by decide +kernel
theorem dX5_takeBack_14 : decode cX5_takeBack 14 = .ok (.iconst 1, 1) := by decide +kernel
theorem dX5_takeBack_15 : decode cX5_takeBack 15 = .ok (.isub, 1) := by decide +kernel
theorem dX5_takeBack_16 : decode cX5_takeBack 16 = .ok (.bipush 8, 2) := by decide +kernel
theorem dX5_takeBack_18 : decode cX5_takeBack 18 = .ok (.invokestatic 29, 3) := by decide +kernel
theorem dX5_takeBack_21 : decode cX5_takeBack 21 = .ok (.putfield 26, 3) := by decide +kernel
theorem dX5_takeBack_24 : decode cX5_takeBack 24 = .ok (.aload_n 0, 1) := by decide +kernel
theorem dX5_takeBack_25 : decode cX5_takeBack 25 = .ok (.dup, 1) := by decide +kernel
theorem dX5_takeBack_26 : decode cX5_takeBack 26 = .ok (.getfield 19, 3) := by decide +kernel
theorem dX5_takeBack_29 : decode cX5_takeBack 29 = .ok (.iconst 1, 1) := by decide +kernel
theorem dX5_takeBack_30 : decode cX5_takeBack 30 = .ok (.isub, 1) := by decide +kernel
theorem dX5_takeBack_31 : decode cX5_takeBack 31 = .ok (.putfield 19, 3) := by decide +kernel
theorem dX5_takeBack_34 : decode cX5_takeBack 34 = .ok (.aload_n 1, 1) := by decide +kernel
theorem dX5_takeBack_35 : decode cX5_takeBack 35 = .ok (.aload_n 0, 1) := by decide +kernel
theorem dX5_takeBack_36 : decode cX5_takeBack 36 = .ok (.getfield 11, 3) := by decide +kernel
theorem dX5_takeBack_39 : decode cX5_takeBack 39 = .ok (.aload_n 0, 1) := by decide +kernel
theorem dX5_takeBack_40 : decode cX5_takeBack 40 = .ok (.getfield 26, 3) := by decide +kernel
theorem dX5_takeBack_43 : decode cX5_takeBack 43 = .ok (.aaload, 1) := by decide +kernel
theorem dX5_takeBack_44 : decode cX5_takeBack 44 = .ok (.invokevirtual 44, 3) := by decide +kernel
theorem dX5_takeBack_47 : decode cX5_takeBack 47 = .ok (.iconst 1, 1) := by decide +kernel
theorem dX5_takeBack_48 : decode cX5_takeBack 48 = .ok (.ireturn, 1) := by decide +kernel
theorem dX5_hasSnapshot_0 : decode cX5_hasSnapshot 0 = .ok (.iload_n 1, 1) := by decide +kernel
theorem dX5_hasSnapshot_1 : decode cX5_hasSnapshot 1 = .ok (.ifCond .lt 23, 3) := by decide +kernel
theorem dX5_hasSnapshot_4 : decode cX5_hasSnapshot 4 = .ok (.iload_n 1, 1) := by decide +kernel
theorem dX5_hasSnapshot_5 : decode cX5_hasSnapshot 5 = .ok (.iconst 3, 1) := by decide +kernel
theorem dX5_hasSnapshot_6 : decode cX5_hasSnapshot 6 = .ok (.if_icmp .ge 18, 3) := by decide +kernel
theorem dX5_hasSnapshot_9 : decode cX5_hasSnapshot 9 = .ok (.aload_n 0, 1) := by decide +kernel
theorem dX5_hasSnapshot_10 : decode cX5_hasSnapshot 10 = .ok (.getfield 23, 3) := by decide +kernel
theorem dX5_hasSnapshot_13 : decode cX5_hasSnapshot 13 = .ok (.iload_n 1, 1) := by decide +kernel
theorem dX5_hasSnapshot_14 : decode cX5_hasSnapshot 14 = .ok (.invokestatic 47, 3) := by decide +kernel
theorem dX5_hasSnapshot_17 : decode cX5_hasSnapshot 17 = .ok (.ifCond .eq 7, 3) := by decide +kernel
theorem dX5_hasSnapshot_20 : decode cX5_hasSnapshot 20 = .ok (.iconst 1, 1) := by decide +kernel
theorem dX5_hasSnapshot_21 : decode cX5_hasSnapshot 21 = .ok (.goto 4, 3) := by decide +kernel
theorem dX5_hasSnapshot_24 : decode cX5_hasSnapshot 24 = .ok (.iconst 0, 1) := by decide +kernel
theorem dX5_hasSnapshot_25 : decode cX5_hasSnapshot 25 = .ok (.ireturn, 1) := by decide +kernel
theorem dX5_keepSnapshot_0 : decode cX5_keepSnapshot 0 = .ok (.iload_n 1, 1) := by decide +kernel
theorem dX5_keepSnapshot_1 : decode cX5_keepSnapshot 1 = .ok (.ifCond .lt 30, 3) := by decide +kernel
theorem dX5_keepSnapshot_4 : decode cX5_keepSnapshot 4 = .ok (.iload_n 1, 1) := by decide +kernel
theorem dX5_keepSnapshot_5 : decode cX5_keepSnapshot 5 = .ok (.iconst 3, 1) := by decide +kernel
theorem dX5_keepSnapshot_6 : decode cX5_keepSnapshot 6 = .ok (.if_icmp .ge 25, 3) := by decide +kernel
theorem dX5_keepSnapshot_9 : decode cX5_keepSnapshot 9 = .ok (.aload_n 2, 1) := by decide +kernel
theorem dX5_keepSnapshot_10 : decode cX5_keepSnapshot 10 = .ok (.aload_n 0, 1) := by decide +kernel
theorem dX5_keepSnapshot_11 : decode cX5_keepSnapshot 11 = .ok (.getfield 16, 3) := by decide +kernel
theorem dX5_keepSnapshot_14 : decode cX5_keepSnapshot 14 = .ok (.iload_n 1, 1) := by decide +kernel
theorem dX5_keepSnapshot_15 : decode cX5_keepSnapshot 15 = .ok (.aaload, 1) := by decide +kernel
theorem dX5_keepSnapshot_16 : decode cX5_keepSnapshot 16 = .ok (.invokevirtual 35, 3) := by decide +kernel
theorem dX5_keepSnapshot_19 : decode cX5_keepSnapshot 19 = .ok (.aload_n 0, 1) := by decide +kernel
theorem dX5_keepSnapshot_20 : decode cX5_keepSnapshot 20 = .ok (.dup, 1) := by decide +kernel
theorem dX5_keepSnapshot_21 : decode cX5_keepSnapshot 21 = .ok (.getfield 23, 3) := by decide +kernel
theorem dX5_keepSnapshot_24 : decode cX5_keepSnapshot 24 = .ok (.iconst 1, 1) := by decide +kernel
theorem dX5_keepSnapshot_25 : decode cX5_keepSnapshot 25 = .ok (.iload_n 1, 1) := by decide +kernel
theorem dX5_keepSnapshot_26 : decode cX5_keepSnapshot 26 = .ok (.ishl, 1) := by decide +kernel
theorem dX5_keepSnapshot_27 : decode cX5_keepSnapshot 27 = .ok (.ior, 1) := by decide +kernel
theorem dX5_keepSnapshot_28 : decode cX5_keepSnapshot 28 = .ok (.putfield 23, 3) := by decide +kernel
theorem dX5_keepSnapshot_31 : decode cX5_keepSnapshot 31 = .ok (.return_, 1) := by decide +kernel
theorem dX5_bringSnapshot_0 : decode cX5_bringSnapshot 0 = .ok (.aload_n 0, 1) := by decide +kernel
theorem dX5_bringSnapshot_1 : decode cX5_bringSnapshot 1 = .ok (.iload_n 1, 1) := by decide +kernel
theorem dX5_bringSnapshot_2 : decode cX5_bringSnapshot 2 = .ok (.invokevirtual 51, 3) := by decide +kernel
theorem dX5_bringSnapshot_5 : decode cX5_bringSnapshot 5 = .ok (.ifCond .eq 13, 3) := by decide +kernel
theorem dX5_bringSnapshot_8 : decode cX5_bringSnapshot 8 = .ok (.aload_n 2, 1) := by decide +kernel
theorem dX5_bringSnapshot_9 : decode cX5_bringSnapshot 9 = .ok (.aload_n 0, 1) := by decide +kernel
theorem dX5_bringSnapshot_10 : decode cX5_bringSnapshot 10 = .ok (.getfield 16, 3) := by decide +kernel
theorem dX5_bringSnapshot_13 : decode cX5_bringSnapshot 13 = .ok (.iload_n 1, 1) := by decide +kernel
theorem dX5_bringSnapshot_14 : decode cX5_bringSnapshot 14 = .ok (.aaload, 1) := by decide +kernel
theorem dX5_bringSnapshot_15 : decode cX5_bringSnapshot 15 = .ok (.invokevirtual 44, 3) := by decide +kernel
theorem dX5_bringSnapshot_18 : decode cX5_bringSnapshot 18 = .ok (.return_, 1) := by decide +kernel
theorem dX6_init_0 : decode cX6_init 0 = .ok (.aload_n 0, 1) := by decide +kernel
theorem dX6_init_1 : decode cX6_init 1 = .ok (.invokespecial 3, 3) := by decide +kernel
theorem dX6_init_4 : decode cX6_init 4 = .ok (.aload_n 0, 1) := by decide +kernel
theorem dX6_init_5 : decode cX6_init 5 = .ok (.new 9, 3) := by decide +kernel
theorem dX6_init_8 : decode cX6_init 8 = .ok (.dup, 1) := by decide +kernel
theorem dX6_init_9 : decode cX6_init 9 = .ok (.invokespecial 11, 3) := by decide +kernel
theorem dX6_init_12 : decode cX6_init 12 = .ok (.putfield 12, 3) := by decide +kernel
theorem dX6_init_15 : decode cX6_init 15 = .ok (.aload_n 0, 1) := by decide +kernel
theorem dX6_init_16 : decode cX6_init 16 = .ok (.new 18, 3) := by decide +kernel
theorem dX6_init_19 : decode cX6_init 19 = .ok (.dup, 1) := by decide +kernel
theorem dX6_init_20 : decode cX6_init 20 = .ok (.invokespecial 20, 3) := by decide +kernel
theorem dX6_init_23 : decode cX6_init 23 = .ok (.putfield 21, 3) := by decide +kernel
theorem dX6_init_26 : decode cX6_init 26 = .ok (.aload_n 0, 1) := by decide +kernel
theorem dX6_init_27 : decode cX6_init 27 = .ok (.new 25, 3) := by decide +kernel
theorem dX6_init_30 : decode cX6_init 30 = .ok (.dup, 1) := by decide +kernel
theorem dX6_init_31 : decode cX6_init 31 = .ok (.invokespecial 27, 3) := by decide +kernel
theorem dX6_init_34 : decode cX6_init 34 = .ok (.putfield 28, 3) := by decide +kernel
theorem dX6_init_37 : decode cX6_init 37 = .ok (.return_, 1) := by decide +kernel
theorem dX6_readText_0 : decode cX6_readText 0 = .ok (.aload_n 0, 1) := by decide +kernel
theorem dX6_readText_1 : decode cX6_readText 1 = .ok (.iconst 0, 1) := by decide +kernel
theorem dX6_readText_2 : decode cX6_readText 2 = .ok (.putfield 32, 3) := by decide +kernel
theorem dX6_readText_5 : decode cX6_readText 5 = .ok (.aload_n 0, 1) := by decide +kernel
theorem dX6_readText_6 : decode cX6_readText 6 = .ok (.iconst 0, 1) := by decide +kernel
theorem dX6_readText_7 : decode cX6_readText 7 = .ok (.putfield 36, 3) := by decide +kernel
theorem dX6_readText_10 : decode cX6_readText 10 = .ok (.aload_n 0, 1) := by decide +kernel
theorem dX6_readText_11 : decode cX6_readText 11 = .ok (.invokevirtual 39, 3) := by decide +kernel
theorem dX6_readText_14 : decode cX6_readText 14 = .ok (.aload_n 0, 1) := by decide +kernel
theorem dX6_readText_15 : decode cX6_readText 15 = .ok (.invokevirtual 42, 3) := by decide +kernel
theorem dX6_readText_18 : decode cX6_readText 18 = .ok (.istore_n 1, 1) := by decide +kernel
theorem dX6_readText_19 : decode cX6_readText 19 = .ok (.iconst 0, 1) := by decide +kernel
theorem dX6_readText_20 : decode cX6_readText 20 = .ok (.istore_n 2, 1) := by decide +kernel
theorem dX6_readText_21 : decode cX6_readText 21 = .ok (.iload_n 2, 1) := by decide +kernel
theorem dX6_readText_22 : decode cX6_readText 22 = .ok (.sipush 400, 3) := by decide +kernel
theorem dX6_readText_25 : decode cX6_readText 25 = .ok (.if_icmp .ge 40, 3) := by decide +kernel
theorem dX6_readText_28 : decode cX6_readText 28 = .ok (.iload_n 1, 1) := by decide +kernel
theorem dX6_readText_29 : decode cX6_readText 29 = .ok (.ifCond .eq 36, 3) := by decide +kernel
theorem dX6_readText_32 : decode cX6_readText 32 = .ok (.aload_n 0, 1) := by decide +kernel
theorem dX6_readText_33 : decode cX6_readText 33 = .ok (.getfield 46, 3) := by decide +kernel
theorem dX6_readText_36 : decode cX6_readText 36 = .ok (.ifCond .eq 29, 3) := by decide +kernel
theorem dX6_readText_39 : decode cX6_readText 39 = .ok (.aload_n 0, 1) := by decide +kernel
theorem dX6_readText_40 : decode cX6_readText 40 = .ok (.invokevirtual 49, 3) := by decide +kernel
theorem dX6_readText_43 : decode cX6_readText 43 = .ok (.ifCond .eq 14, 3) := by decide +kernel
theorem dX6_readText_46 : decode cX6_readText 46 = .ok (.aload_n 0, 1) := by decide +kernel
theorem dX6_readText_47 : decode cX6_readText 47 = .ok (.invokevirtual 52, 3) := by decide +kernel
theorem dX6_readText_50 : decode cX6_readText 50 = .ok (.ifCond .eq 7, 3) := by decide +kernel
theorem dX6_readText_53 : decode cX6_readText 53 = .ok (.iconst 1, 1) := by decide +kernel
theorem dX6_readText_54 : decode cX6_readText 54 = .ok (.goto 4, 3) := by decide +kernel
theorem dX6_readText_57 : decode cX6_readText 57 = .ok (.iconst 0, 1) := by decide +kernel
theorem dX6_readText_58 : decode cX6_readText 58 = .ok (.istore_n 1, 1) := by decide +kernel
theorem dX6_readText_59 : decode cX6_readText 59 = .ok (.iinc 2 1, 3) := by decide +kernel
theorem dX6_readText_62 : decode cX6_readText 62 = .ok (.goto (-41), 3) := by decide +kernel
theorem dX6_readText_65 : decode cX6_readText 65 = .ok (.aload_n 0, 1) := by decide +kernel
theorem dX6_readText_66 : decode cX6_readText 66 = .ok (.getfield 36, 3) := by decide +kernel
theorem dX6_readText_69 : decode cX6_readText 69 = .ok (.ireturn, 1) := by decide +kernel
theorem dX6_readVertices_0 : decode cX6_readVertices 0 = .ok (.aload_n 0, 1) := by decide +kernel
theorem dX6_readVertices_1 : decode cX6_readVertices 1 = .ok (.ldc 55, 2) := by decide +kernel
theorem dX6_readVertices_3 : decode cX6_readVertices 3 = .ok (.invokevirtual 57, 3) := by decide +kernel
theorem dX6_readVertices_6 : decode cX6_readVertices 6 = .ok (.ifCond .ne 9, 3) := by decide +kernel
theorem dX6_readVertices_9 : decode cX6_readVertices 9 = .ok (.aload_n 0, 1) := by decide +kernel
theorem dX6_readVertices_10 : decode cX6_readVertices 10 = .ok (.iconst 1, 1) := by decide +kernel
theorem dX6_readVertices_11 : decode cX6_readVertices 11 = .ok (.invokevirtual 61, 3) := by decide +kernel
theorem dX6_readVertices_14 : decode cX6_readVertices 14 = .ok (.ireturn, 1) := by decide +kernel
theorem dX6_readVertices_15 : decode cX6_readVertices 15 = .ok (.aload_n 0, 1) := by decide +kernel
theorem dX6_readVertices_16 : decode cX6_readVertices 16 = .ok (.invokevirtual 39, 3) := by decide +kernel
theorem dX6_readVertices_19 : decode cX6_readVertices 19 = .ok (.aload_n 0, 1) := by decide +kernel
theorem dX6_readVertices_20 : decode cX6_readVertices 20 = .ok (.iconst 1, 1) := by decide +kernel
theorem dX6_readVertices_21 : decode cX6_readVertices 21 = .ok (.bipush 10, 2) := by decide +kernel
theorem dX6_readVertices_23 : decode cX6_readVertices 23 = .ok (.invokevirtual 65, 3) := by decide +kernel
theorem dX6_readVertices_26 : decode cX6_readVertices 26 = .ok (.ifCond .ne 5, 3) := by decide +kernel
theorem dX6_readVertices_29 : decode cX6_readVertices 29 = .ok (.iconst 0, 1) := by decide +kernel
theorem dX6_readVertices_30 : decode cX6_readVertices 30 = .ok (.ireturn, 1) := by decide +kernel
theorem dX6_readVertices_31 : decode cX6_readVertices 31 = .ok (.aload_n 0, 1) := by decide +kernel
theorem dX6_readVertices_32 : decode cX6_readVertices 32 = .ok (.getfield 21, 3) := by decide +kernel
theorem dX6_readVertices_35 : decode cX6_readVertices 35 = .ok (.aload_n 0, 1) := by decide +kernel
theorem dX6_readVertices_36 : decode cX6_readVertices 36 = .ok (.getfield 69, 3) := by decide +kernel
theorem dX6_readVertices_39 : decode cX6_readVertices 39 = .ok (.invokevirtual 72, 3) := by decide +kernel
theorem dX6_readVertices_42 : decode cX6_readVertices 42 = .ok (.aload_n 0, 1) := by decide +kernel
theorem dX6_readVertices_43 : decode cX6_readVertices 43 = .ok (.invokevirtual 39, 3) := by decide +kernel
theorem dX6_readVertices_46 : decode cX6_readVertices 46 = .ok (.aload_n 0, 1) := by decide +kernel
theorem dX6_readVertices_47 : decode cX6_readVertices 47 = .ok (.invokevirtual 52, 3) := by decide +kernel
theorem dX6_readVertices_50 : decode cX6_readVertices 50 = .ok (.ireturn, 1) := by decide +kernel
theorem dX6_readStatement_0 : decode cX6_readStatement 0 = .ok (.aload_n 0, 1) := by decide +kernel
theorem dX6_readStatement_1 : decode cX6_readStatement 1 = .ok (.ldc 76, 2) := by decide +kernel
theorem dX6_readStatement_3 : decode cX6_readStatement 3 = .ok (.invokevirtual 57, 3) := by decide +kernel
theorem dX6_readStatement_6 : decode cX6_readStatement 6 = .ok (.ifCond .eq 10, 3) := by decide +kernel
theorem dX6_readStatement_9 : decode cX6_readStatement 9 = .ok (.aload_n 0, 1) := by decide +kernel
theorem dX6_readStatement_10 : decode cX6_readStatement 10 = .ok (.iconst 0, 1) := by decide +kernel
theorem dX6_readStatement_11 : decode cX6_readStatement 11 = .ok (.iconst 1, 1) := by decide +kernel
theorem dX6_readStatement_12 : decode cX6_readStatement 12 = .ok (.invokevirtual 78, 3) := by decide +kernel
theorem dX6_readStatement_15 : decode cX6_readStatement 15 = .ok (.ireturn, 1) := by decide +kernel
theorem dX6_readStatement_16 : decode cX6_readStatement 16 = .ok (.aload_n 0, 1) := by decide +kernel
theorem dX6_readStatement_17 : decode cX6_readStatement 17 = .ok (.ldc 82, 2) := by decide +kernel
theorem dX6_readStatement_19 : decode cX6_readStatement 19 = .ok (.invokevirtual 57, 3) := by decide +kernel
theorem dX6_readStatement_22 : decode cX6_readStatement 22 = .ok (.ifCond .eq 11, 3) := by decide +kernel
theorem dX6_readStatement_25 : decode cX6_readStatement 25 = .ok (.aload_n 0, 1) := by decide +kernel
theorem dX6_readStatement_26 : decode cX6_readStatement 26 = .ok (.iconst 0, 1) := by decide +kernel
theorem dX6_readStatement_27 : decode cX6_readStatement 27 = .ok (.bipush 10, 2) := by decide +kernel
theorem dX6_readStatement_29 : decode cX6_readStatement 29 = .ok (.invokevirtual 78, 3) := by decide +kernel
theorem dX6_readStatement_32 : decode cX6_readStatement 32 = .ok (.ireturn, 1) := by decide +kernel
theorem dX6_readStatement_33 : decode cX6_readStatement 33 = .ok (.aload_n 0, 1) := by decide +kernel
theorem dX6_readStatement_34 : decode cX6_readStatement 34 = .ok (.ldc 84, 2) := by decide +kernel
theorem dX6_readStatement_36 : decode cX6_readStatement 36 = .ok (.invokevirtual 57, 3) := by decide +kernel
theorem dX6_readStatement_39 : decode cX6_readStatement 39 = .ok (.ifCond .eq 11, 3) := by decide +kernel
theorem dX6_readStatement_42 : decode cX6_readStatement 42 = .ok (.aload_n 0, 1) := by decide +kernel
theorem dX6_readStatement_43 : decode cX6_readStatement 43 = .ok (.iconst 1, 1) := by decide +kernel
theorem dX6_readStatement_44 : decode cX6_readStatement 44 = .ok (.bipush 10, 2) := by decide +kernel
theorem dX6_readStatement_46 : decode cX6_readStatement 46 = .ok (.invokevirtual 78, 3) := by decide +kernel
theorem dX6_readStatement_49 : decode cX6_readStatement 49 = .ok (.ireturn, 1) := by decide +kernel
theorem dX6_readStatement_50 : decode cX6_readStatement 50 = .ok (.aload_n 0, 1) := by decide +kernel
theorem dX6_readStatement_51 : decode cX6_readStatement 51 = .ok (.ldc 86, 2) := by decide +kernel
theorem dX6_readStatement_53 : decode cX6_readStatement 53 = .ok (.invokevirtual 57, 3) := by decide +kernel
theorem dX6_readStatement_56 : decode cX6_readStatement 56 = .ok (.ifCond .eq 8, 3) := by decide +kernel
theorem dX6_readStatement_59 : decode cX6_readStatement 59 = .ok (.aload_n 0, 1) := by decide +kernel
theorem dX6_readStatement_60 : decode cX6_readStatement 60 = .ok (.invokevirtual 88, 3) := by decide +kernel
theorem dX6_readStatement_63 : decode cX6_readStatement 63 = .ok (.ireturn, 1) := by decide +kernel
theorem dX6_readStatement_64 : decode cX6_readStatement 64 = .ok (.aload_n 0, 1) := by decide +kernel
theorem dX6_readStatement_65 : decode cX6_readStatement 65 = .ok (.ldc 91, 2) := by decide +kernel
theorem dX6_readStatement_67 : decode cX6_readStatement 67 = .ok (.invokevirtual 57, 3) := by decide +kernel
theorem dX6_readStatement_70 : decode cX6_readStatement 70 = .ok (.ifCond .eq 10, 3) := by decide +kernel
theorem dX6_readStatement_73 : decode cX6_readStatement 73 = .ok (.aload_n 0, 1) := by decide +kernel
theorem dX6_readStatement_74 : decode cX6_readStatement 74 = .ok (.invokevirtual 93, 3) := by decide +kernel
theorem dX6_readStatement_77 : decode cX6_readStatement 77 = .ok (.goto 8, 3) := by decide +kernel
theorem dX6_readStatement_80 : decode cX6_readStatement 80 = .ok (.aload_n 0, 1) := by decide +kernel
theorem dX6_readStatement_81 : decode cX6_readStatement 81 = .ok (.iconst 1, 1) := by decide +kernel
theorem dX6_readStatement_82 : decode cX6_readStatement 82 = .ok (.invokevirtual 61, 3) := by decide +kernel
theorem dX6_readStatement_85 : decode cX6_readStatement 85 = .ok (.ireturn, 1) := by decide +kernel
theorem dX6_endStatement_0 : decode cX6_endStatement 0 = .ok (.aload_n 0, 1) := by decide +kernel
theorem dX6_endStatement_1 : decode cX6_endStatement 1 = .ok (.getfield 46, 3) := by decide +kernel
theorem dX6_endStatement_4 : decode cX6_endStatement 4 = .ok (.iconst 3, 1) := by decide +kernel
theorem dX6_endStatement_5 : decode cX6_endStatement 5 = .ok (.if_icmp .eq 9, 3) := by decide +kernel
theorem dX6_endStatement_8 : decode cX6_endStatement 8 = .ok (.aload_n 0, 1) := by decide +kernel
theorem dX6_endStatement_9 : decode cX6_endStatement 9 = .ok (.iconst 1, 1) := by decide +kernel
theorem dX6_endStatement_10 : decode cX6_endStatement 10 = .ok (.invokevirtual 61, 3) := by decide +kernel
theorem dX6_endStatement_13 : decode cX6_endStatement 13 = .ok (.ireturn, 1) := by decide +kernel
theorem dX6_endStatement_14 : decode cX6_endStatement 14 = .ok (.aload_n 0, 1) := by decide +kernel
theorem dX6_endStatement_15 : decode cX6_endStatement 15 = .ok (.invokevirtual 39, 3) := by decide +kernel
theorem dX6_endStatement_18 : decode cX6_endStatement 18 = .ok (.iconst 1, 1) := by decide +kernel
theorem dX6_endStatement_19 : decode cX6_endStatement 19 = .ok (.ireturn, 1) := by decide +kernel
theorem dX6_readEdges_0 : decode cX6_readEdges 0 = .ok (.aload_n 0, 1) := by decide +kernel
theorem dX6_readEdges_1 : decode cX6_readEdges 1 = .ok (.invokevirtual 39, 3) := by decide +kernel
theorem dX6_readEdges_4 : decode cX6_readEdges 4 = .ok (.aload_n 0, 1) := by decide +kernel
theorem dX6_readEdges_5 : decode cX6_readEdges 5 = .ok (.iconst 0, 1) := by decide +kernel
theorem dX6_readEdges_6 : decode cX6_readEdges 6 = .ok (.aload_n 0, 1) := by decide +kernel
theorem dX6_readEdges_7 : decode cX6_readEdges 7 = .ok (.getfield 21, 3) := by decide +kernel
theorem dX6_readEdges_10 : decode cX6_readEdges 10 = .ok (.getfield 96, 3) := by decide +kernel
theorem dX6_readEdges_13 : decode cX6_readEdges 13 = .ok (.iconst 1, 1) := by decide +kernel
theorem dX6_readEdges_14 : decode cX6_readEdges 14 = .ok (.isub, 1) := by decide +kernel
theorem dX6_readEdges_15 : decode cX6_readEdges 15 = .ok (.invokevirtual 65, 3) := by decide +kernel
theorem dX6_readEdges_18 : decode cX6_readEdges 18 = .ok (.ifCond .ne 5, 3) := by decide +kernel
theorem dX6_readEdges_21 : decode cX6_readEdges 21 = .ok (.iconst 0, 1) := by decide +kernel
theorem dX6_readEdges_22 : decode cX6_readEdges 22 = .ok (.ireturn, 1) := by decide +kernel
theorem dX6_readEdges_23 : decode cX6_readEdges 23 = .ok (.aload_n 0, 1) := by decide +kernel
theorem dX6_readEdges_24 : decode cX6_readEdges 24 = .ok (.getfield 69, 3) := by decide +kernel
theorem dX6_readEdges_27 : decode cX6_readEdges 27 = .ok (.istore_n 3, 1) := by decide +kernel
theorem dX6_readEdges_28 : decode cX6_readEdges 28 = .ok (.aload_n 0, 1) := by decide +kernel
theorem dX6_readEdges_29 : decode cX6_readEdges 29 = .ok (.invokevirtual 39, 3) := by decide +kernel
theorem dX6_readEdges_32 : decode cX6_readEdges 32 = .ok (.iconst 0, 1) := by decide +kernel
theorem dX6_readEdges_33 : decode cX6_readEdges 33 = .ok (.istore 4, 2) := by decide +kernel
theorem dX6_readEdges_35 : decode cX6_readEdges 35 = .ok (.iload 4, 2) := by decide +kernel
theorem dX6_readEdges_37 : decode cX6_readEdges 37 = .ok (.iload_n 2, 1) := by decide +kernel
theorem dX6_readEdges_38 : decode cX6_readEdges 38 = .ok (.if_icmp .ge 92, 3) := by decide +kernel
theorem dX6_readEdges_41 : decode cX6_readEdges 41 = .ok (.iload 4, 2) := by decide +kernel
theorem dX6_readEdges_43 : decode cX6_readEdges 43 = .ok (.ifCond .eq 11, 3) := by decide +kernel
theorem dX6_readEdges_46 : decode cX6_readEdges 46 = .ok (.aload_n 0, 1) := by decide +kernel
theorem dX6_readEdges_47 : decode cX6_readEdges 47 = .ok (.getfield 46, 3) := by decide +kernel
theorem dX6_readEdges_50 : decode cX6_readEdges 50 = .ok (.iconst 2, 1) := by decide +kernel
theorem dX6_readEdges_51 : decode cX6_readEdges 51 = .ok (.if_icmp .ne 79, 3) := by decide +kernel
theorem dX6_readEdges_54 : decode cX6_readEdges 54 = .ok (.aload_n 0, 1) := by decide +kernel
theorem dX6_readEdges_55 : decode cX6_readEdges 55 = .ok (.iconst 0, 1) := by decide +kernel
theorem dX6_readEdges_56 : decode cX6_readEdges 56 = .ok (.aload_n 0, 1) := by decide +kernel
theorem dX6_readEdges_57 : decode cX6_readEdges 57 = .ok (.getfield 21, 3) := by decide +kernel
theorem dX6_readEdges_60 : decode cX6_readEdges 60 = .ok (.getfield 96, 3) := by decide +kernel
theorem dX6_readEdges_63 : decode cX6_readEdges 63 = .ok (.iconst 1, 1) := by decide +kernel
theorem dX6_readEdges_64 : decode cX6_readEdges 64 = .ok (.isub, 1) := by decide +kernel
theorem dX6_readEdges_65 : decode cX6_readEdges 65 = .ok (.invokevirtual 65, 3) := by decide +kernel
theorem dX6_readEdges_68 : decode cX6_readEdges 68 = .ok (.ifCond .ne 5, 3) := by decide +kernel
theorem dX6_readEdges_71 : decode cX6_readEdges 71 = .ok (.iconst 0, 1) := by decide +kernel
theorem dX6_readEdges_72 : decode cX6_readEdges 72 = .ok (.ireturn, 1) := by decide +kernel
theorem dX6_readEdges_73 : decode cX6_readEdges 73 = .ok (.aload_n 0, 1) := by decide +kernel
theorem dX6_readEdges_74 : decode cX6_readEdges 74 = .ok (.getfield 69, 3) := by decide +kernel
theorem dX6_readEdges_77 : decode cX6_readEdges 77 = .ok (.istore 5, 2) := by decide +kernel
theorem dX6_readEdges_79 : decode cX6_readEdges 79 = .ok (.aload_n 0, 1) := by decide +kernel
theorem dX6_readEdges_80 : decode cX6_readEdges 80 = .ok (.getfield 21, 3) := by decide +kernel
theorem dX6_readEdges_83 : decode cX6_readEdges 83 = .ok (.iload_n 3, 1) := by decide +kernel
theorem dX6_readEdges_84 : decode cX6_readEdges 84 = .ok (.iload 5, 2) := by decide +kernel
theorem dX6_readEdges_86 : decode cX6_readEdges 86 = .ok (.invokevirtual 99, 3) := by decide +kernel
theorem dX6_readEdges_89 : decode cX6_readEdges 89 = .ok (.iconst (-1), 1) := by decide +kernel
theorem dX6_readEdges_90 : decode cX6_readEdges 90 = .ok (.if_icmp .eq 9, 3) := by decide +kernel
theorem dX6_readEdges_93 : decode cX6_readEdges 93 = .ok (.aload_n 0, 1) := by decide +kernel
theorem dX6_readEdges_94 : decode cX6_readEdges 94 = .ok (.iconst 3, 1) := by decide +kernel
theorem dX6_readEdges_95 : decode cX6_readEdges 95 = .ok (.invokevirtual 61, 3) := by decide +kernel
theorem dX6_readEdges_98 : decode cX6_readEdges 98 = .ok (.ireturn, 1) := by decide +kernel
theorem dX6_readEdges_99 : decode cX6_readEdges 99 = .ok (.aload_n 0, 1) := by decide +kernel
theorem dX6_readEdges_100 : decode cX6_readEdges 100 = .ok (.getfield 21, 3) := by decide +kernel
theorem dX6_readEdges_103 : decode cX6_readEdges 103 = .ok (.iload_n 3, 1) := by decide +kernel
theorem dX6_readEdges_104 : decode cX6_readEdges 104 = .ok (.iload 5, 2) := by decide +kernel
theorem dX6_readEdges_106 : decode cX6_readEdges 106 = .ok (.invokevirtual 103, 3) := by decide +kernel
theorem dX6_readEdges_109 : decode cX6_readEdges 109 = .ok (.iload_n 1, 1) := by decide +kernel
theorem dX6_readEdges_110 : decode cX6_readEdges 110 = .ok (.ifCond .eq 7, 3) := by decide +kernel
theorem dX6_readEdges_113 : decode cX6_readEdges 113 = .ok (.iload_n 3, 1) := by decide +kernel
theorem dX6_readEdges_114 : decode cX6_readEdges 114 = .ok (.goto 5, 3) := by decide +kernel
theorem dX6_readEdges_117 : decode cX6_readEdges 117 = .ok (.iload 5, 2) := by decide +kernel
theorem dX6_readEdges_119 : decode cX6_readEdges 119 = .ok (.istore_n 3, 1) := by decide +kernel
theorem dX6_readEdges_120 : decode cX6_readEdges 120 = .ok (.aload_n 0, 1) := by decide +kernel
theorem dX6_readEdges_121 : decode cX6_readEdges 121 = .ok (.invokevirtual 39, 3) := by decide +kernel
theorem dX6_readEdges_124 : decode cX6_readEdges 124 = .ok (.iinc 4 1, 3) := by decide +kernel
theorem dX6_readEdges_127 : decode cX6_readEdges 127 = .ok (.goto (-92), 3) := by decide +kernel
theorem dX6_readEdges_130 : decode cX6_readEdges 130 = .ok (.iconst 1, 1) := by decide +kernel
theorem dX6_readEdges_131 : decode cX6_readEdges 131 = .ok (.ireturn, 1) := by decide +kernel
theorem dX6_readCode_0 : decode cX6_readCode 0 = .ok (.aload_n 0, 1) := by decide +kernel
theorem dX6_readCode_1 : decode cX6_readCode 1 = .ok (.getfield 21, 3) := by decide +kernel
theorem dX6_readCode_4 : decode cX6_readCode 4 = .ok (.invokevirtual 107, 3) := by decide +kernel
theorem dX6_readCode_7 : decode cX6_readCode 7 = .ok (.ifCond .eq 9, 3) := by decide +kernel
theorem dX6_readCode_10 : decode cX6_readCode 10 = .ok (.aload_n 0, 1) := by decide +kernel
theorem dX6_readCode_11 : decode cX6_readCode 11 = .ok (.iconst 4, 1) := by decide +kernel
theorem dX6_readCode_12 : decode cX6_readCode 12 = .ok (.invokevirtual 61, 3) := by decide +kernel
theorem dX6_readCode_15 : decode cX6_readCode 15 = .ok (.ireturn, 1) := by decide +kernel
theorem dX6_readCode_16 : decode cX6_readCode 16 = .ok (.aload_n 0, 1) := by decide +kernel
theorem dX6_readCode_17 : decode cX6_readCode 17 = .ok (.invokevirtual 39, 3) := by decide +kernel
theorem dX6_readCode_20 : decode cX6_readCode 20 = .ok (.iconst 0, 1) := by decide +kernel
theorem dX6_readCode_21 : decode cX6_readCode 21 = .ok (.istore_n 1, 1) := by decide +kernel
theorem dX6_readCode_22 : decode cX6_readCode 22 = .ok (.iload_n 1, 1) := by decide +kernel
theorem dX6_readCode_23 : decode cX6_readCode 23 = .ok (.aload_n 0, 1) := by decide +kernel
theorem dX6_readCode_24 : decode cX6_readCode 24 = .ok (.getfield 21, 3) := by decide +kernel
theorem dX6_readCode_27 : decode cX6_readCode 27 = .ok (.getfield 96, 3) := by decide +kernel
theorem dX6_readCode_30 : decode cX6_readCode 30 = .ok (.invokestatic 111, 3) := by decide +kernel
theorem dX6_readCode_33 : decode cX6_readCode 33 = .ok (.if_icmp .ge 44, 3) := by decide +kernel
theorem dX6_readCode_36 : decode cX6_readCode 36 = .ok (.aload_n 0, 1) := by decide +kernel
theorem dX6_readCode_37 : decode cX6_readCode 37 = .ok (.iconst 0, 1) := by decide +kernel
theorem dX6_readCode_38 : decode cX6_readCode 38 = .ok (.aload_n 0, 1) := by decide +kernel
theorem dX6_readCode_39 : decode cX6_readCode 39 = .ok (.getfield 21, 3) := by decide +kernel
theorem dX6_readCode_42 : decode cX6_readCode 42 = .ok (.getfield 96, 3) := by decide +kernel
theorem dX6_readCode_45 : decode cX6_readCode 45 = .ok (.iconst 1, 1) := by decide +kernel
theorem dX6_readCode_46 : decode cX6_readCode 46 = .ok (.isub, 1) := by decide +kernel
theorem dX6_readCode_47 : decode cX6_readCode 47 = .ok (.invokevirtual 65, 3) := by decide +kernel
theorem dX6_readCode_50 : decode cX6_readCode 50 = .ok (.ifCond .ne 5, 3) := by decide +kernel
theorem dX6_readCode_53 : decode cX6_readCode 53 = .ok (.iconst 0, 1) := by decide +kernel
theorem dX6_readCode_54 : decode cX6_readCode 54 = .ok (.ireturn, 1) := by decide +kernel
theorem dX6_readCode_55 : decode cX6_readCode 55 = .ok (.aload_n 0, 1) := by decide +kernel
theorem dX6_readCode_56 : decode cX6_readCode 56 = .ok (.getfield 28, 3) := by decide +kernel
theorem dX6_readCode_59 : decode cX6_readCode 59 = .ok (.iload_n 1, 1) := by decide +kernel
theorem dX6_readCode_60 : decode cX6_readCode 60 = .ok (.aload_n 0, 1) := by decide +kernel
theorem dX6_readCode_61 : decode cX6_readCode 61 = .ok (.getfield 69, 3) := by decide +kernel
theorem dX6_readCode_64 : decode cX6_readCode 64 = .ok (.invokevirtual 115, 3) := by decide +kernel
theorem dX6_readCode_67 : decode cX6_readCode 67 = .ok (.aload_n 0, 1) := by decide +kernel
theorem dX6_readCode_68 : decode cX6_readCode 68 = .ok (.invokevirtual 39, 3) := by decide +kernel
theorem dX6_readCode_71 : decode cX6_readCode 71 = .ok (.iinc 1 1, 3) := by decide +kernel
theorem dX6_readCode_74 : decode cX6_readCode 74 = .ok (.goto (-52), 3) := by decide +kernel
theorem dX6_readCode_77 : decode cX6_readCode 77 = .ok (.aload_n 0, 1) := by decide +kernel
theorem dX6_readCode_78 : decode cX6_readCode 78 = .ok (.getfield 28, 3) := by decide +kernel
theorem dX6_readCode_81 : decode cX6_readCode 81 = .ok (.aload_n 0, 1) := by decide +kernel
theorem dX6_readCode_82 : decode cX6_readCode 82 = .ok (.getfield 21, 3) := by decide +kernel
theorem dX6_readCode_85 : decode cX6_readCode 85 = .ok (.invokevirtual 118, 3) := by decide +kernel
theorem dX6_readCode_88 : decode cX6_readCode 88 = .ok (.iconst 1, 1) := by decide +kernel
theorem dX6_readCode_89 : decode cX6_readCode 89 = .ok (.ireturn, 1) := by decide +kernel
theorem dX6_readWeight_0 : decode cX6_readWeight 0 = .ok (.aload_n 0, 1) := by decide +kernel
theorem dX6_readWeight_1 : decode cX6_readWeight 1 = .ok (.invokevirtual 39, 3) := by decide +kernel
theorem dX6_readWeight_4 : decode cX6_readWeight 4 = .ok (.aload_n 0, 1) := by decide +kernel
theorem dX6_readWeight_5 : decode cX6_readWeight 5 = .ok (.iconst 0, 1) := by decide +kernel
theorem dX6_readWeight_6 : decode cX6_readWeight 6 = .ok (.aload_n 0, 1) := by decide +kernel
theorem dX6_readWeight_7 : decode cX6_readWeight 7 = .ok (.getfield 21, 3) := by decide +kernel
theorem dX6_readWeight_10 : decode cX6_readWeight 10 = .ok (.getfield 96, 3) := by decide +kernel
theorem dX6_readWeight_13 : decode cX6_readWeight 13 = .ok (.iconst 1, 1) := by decide +kernel
theorem dX6_readWeight_14 : decode cX6_readWeight 14 = .ok (.isub, 1) := by decide +kernel
theorem dX6_readWeight_15 : decode cX6_readWeight 15 = .ok (.invokevirtual 65, 3) := by decide +kernel
theorem dX6_readWeight_18 : decode cX6_readWeight 18 = .ok (.ifCond .ne 5, 3) := by decide +kernel
theorem dX6_readWeight_21 : decode cX6_readWeight 21 = .ok (.iconst 0, 1) := by decide +kernel
theorem dX6_readWeight_22 : decode cX6_readWeight 22 = .ok (.ireturn, 1) := by decide +kernel
theorem dX6_readWeight_23 : decode cX6_readWeight 23 = .ok (.aload_n 0, 1) := by decide +kernel
theorem dX6_readWeight_24 : decode cX6_readWeight 24 = .ok (.getfield 69, 3) := by decide +kernel
theorem dX6_readWeight_27 : decode cX6_readWeight 27 = .ok (.istore_n 1, 1) := by decide +kernel
theorem dX6_readWeight_28 : decode cX6_readWeight 28 = .ok (.aload_n 0, 1) := by decide +kernel
theorem dX6_readWeight_29 : decode cX6_readWeight 29 = .ok (.invokevirtual 39, 3) := by decide +kernel
theorem dX6_readWeight_32 : decode cX6_readWeight 32 = .ok (.aload_n 0, 1) := by decide +kernel
theorem dX6_readWeight_33 : decode cX6_readWeight 33 = .ok (.iconst 0, 1) := by decide +kernel
theorem dX6_readWeight_34 : decode cX6_readWeight 34 = .ok (.bipush 99, 2) := by decide +kernel
theorem dX6_readWeight_36 : decode cX6_readWeight 36 = .ok (.invokevirtual 65, 3) := by decide +kernel
theorem dX6_readWeight_39 : decode cX6_readWeight 39 = .ok (.ifCond .ne 5, 3) := by decide +kernel
theorem dX6_readWeight_42 : decode cX6_readWeight 42 = .ok (.iconst 0, 1) := by decide +kernel
theorem dX6_readWeight_43 : decode cX6_readWeight 43 = .ok (.ireturn, 1) := by decide +kernel
theorem dX6_readWeight_44 : decode cX6_readWeight 44 = .ok (.aload_n 0, 1) := by decide +kernel
theorem dX6_readWeight_45 : decode cX6_readWeight 45 = .ok (.getfield 21, 3) := by decide +kernel
theorem dX6_readWeight_48 : decode cX6_readWeight 48 = .ok (.iload_n 1, 1) := by decide +kernel
theorem dX6_readWeight_49 : decode cX6_readWeight 49 = .ok (.aload_n 0, 1) := by decide +kernel
theorem dX6_readWeight_50 : decode cX6_readWeight 50 = .ok (.getfield 69, 3) := by decide +kernel
theorem dX6_readWeight_53 : decode cX6_readWeight 53 = .ok (.invokevirtual 122, 3) := by decide +kernel
theorem dX6_readWeight_56 : decode cX6_readWeight 56 = .ok (.aload_n 0, 1) := by decide +kernel
theorem dX6_readWeight_57 : decode cX6_readWeight 57 = .ok (.invokevirtual 39, 3) := by decide +kernel
theorem dX6_readWeight_60 : decode cX6_readWeight 60 = .ok (.iconst 1, 1) := by decide +kernel
theorem dX6_readWeight_61 : decode cX6_readWeight 61 = .ok (.ireturn, 1) := by decide +kernel
theorem dX6_needNumber_0 : decode cX6_needNumber 0 = .ok (.aload_n 0, 1) := by decide +kernel
theorem dX6_needNumber_1 : decode cX6_needNumber 1 = .ok (.getfield 46, 3) := by decide +kernel
theorem dX6_needNumber_4 : decode cX6_needNumber 4 = .ok (.iconst 2, 1) := by decide +kernel
theorem dX6_needNumber_5 : decode cX6_needNumber 5 = .ok (.if_icmp .eq 9, 3) := by decide +kernel
theorem dX6_needNumber_8 : decode cX6_needNumber 8 = .ok (.aload_n 0, 1) := by decide +kernel
theorem dX6_needNumber_9 : decode cX6_needNumber 9 = .ok (.iconst 1, 1) := by decide +kernel
theorem dX6_needNumber_10 : decode cX6_needNumber 10 = .ok (.invokevirtual 61, 3) := by decide +kernel
theorem dX6_needNumber_13 : decode cX6_needNumber 13 = .ok (.ireturn, 1) := by decide +kernel
theorem dX6_needNumber_14 : decode cX6_needNumber 14 = .ok (.aload_n 0, 1) := by decide +kernel
theorem dX6_needNumber_15 : decode cX6_needNumber 15 = .ok (.getfield 69, 3) := by decide +kernel
theorem dX6_needNumber_18 : decode cX6_needNumber 18 = .ok (.iload_n 1, 1) := by decide +kernel
theorem dX6_needNumber_19 : decode cX6_needNumber 19 = .ok (.if_icmp .lt 11, 3) := by decide +kernel
theorem dX6_needNumber_22 : decode cX6_needNumber 22 = .ok (.aload_n 0, 1) := by decide +kernel
theorem dX6_needNumber_23 : decode cX6_needNumber 23 = .ok (.getfield 69, 3) := by decide +kernel
theorem dX6_needNumber_26 : decode cX6_needNumber 26 = .ok (.iload_n 2, 1) := by decide +kernel
theorem dX6_needNumber_27 : decode cX6_needNumber 27 = .ok (.if_icmp .le 11, 3) := by decide +kernel
theorem dX6_needNumber_30 : decode cX6_needNumber 30 = .ok (.aload_n 0, 1) := by decide +kernel
theorem dX6_needNumber_31 : decode cX6_needNumber 31 = .ok (.iconst 2, 1) := by decide +kernel
theorem dX6_needNumber_32 : decode cX6_needNumber 32 = .ok (.invokevirtual 61, 3) := by decide +kernel
theorem dX6_needNumber_35 : decode cX6_needNumber 35 = .ok (.ifCond .eq 7, 3) := by decide +kernel
theorem dX6_needNumber_38 : decode cX6_needNumber 38 = .ok (.iconst 1, 1) := by decide +kernel
theorem dX6_needNumber_39 : decode cX6_needNumber 39 = .ok (.goto 4, 3) := by decide +kernel
theorem dX6_needNumber_42 : decode cX6_needNumber 42 = .ok (.iconst 0, 1) := by decide +kernel
theorem dX6_needNumber_43 : decode cX6_needNumber 43 = .ok (.ireturn, 1) := by decide +kernel
theorem dX6_fail_0 : decode cX6_fail 0 = .ok (.aload_n 0, 1) := by decide +kernel
theorem dX6_fail_1 : decode cX6_fail 1 = .ok (.bipush 8, 2) := by decide +kernel
theorem dX6_fail_3 : decode cX6_fail 3 = .ok (.aload_n 0, 1) := by decide +kernel
theorem dX6_fail_4 : decode cX6_fail 4 = .ok (.getfield 125, 3) := by decide +kernel
theorem dX6_fail_7 : decode cX6_fail 7 = .ok (.imul, 1) := by decide +kernel
theorem dX6_fail_8 : decode cX6_fail 8 = .ok (.iload_n 1, 1) := by decide +kernel
theorem dX6_fail_9 : decode cX6_fail 9 = .ok (.iadd, 1) := by decide +kernel
theorem dX6_fail_10 : decode cX6_fail 10 = .ok (.putfield 36, 3) := by decide +kernel
theorem dX6_fail_13 : decode cX6_fail 13 = .ok (.iconst 0, 1) := by decide +kernel
theorem dX6_fail_14 : decode cX6_fail 14 = .ok (.ireturn, 1) := by decide +kernel
theorem dX6_isWord_0 : decode cX6_isWord 0 = .ok (.aload_n 0, 1) := by decide +kernel
theorem dX6_isWord_1 : decode cX6_isWord 1 = .ok (.getfield 46, 3) := by decide +kernel
theorem dX6_isWord_4 : decode cX6_isWord 4 = .ok (.iconst 1, 1) := by decide +kernel
theorem dX6_isWord_5 : decode cX6_isWord 5 = .ok (.if_icmp .ne 19, 3) := by decide +kernel
theorem dX6_isWord_8 : decode cX6_isWord 8 = .ok (.aload_n 0, 1) := by decide +kernel
theorem dX6_isWord_9 : decode cX6_isWord 9 = .ok (.getfield 32, 3) := by decide +kernel
theorem dX6_isWord_12 : decode cX6_isWord 12 = .ok (.aload_n 0, 1) := by decide +kernel
theorem dX6_isWord_13 : decode cX6_isWord 13 = .ok (.getfield 125, 3) := by decide +kernel
theorem dX6_isWord_16 : decode cX6_isWord 16 = .ok (.isub, 1) := by decide +kernel
theorem dX6_isWord_17 : decode cX6_isWord 17 = .ok (.aload_n 1, 1) := by decide +kernel
theorem dX6_isWord_18 : decode cX6_isWord 18 = .ok (.invokevirtual 128, 3) := by decide +kernel
theorem dX6_isWord_21 : decode cX6_isWord 21 = .ok (.if_icmp .eq 5, 3) := by decide +kernel
theorem dX6_isWord_24 : decode cX6_isWord 24 = .ok (.iconst 0, 1) := by decide +kernel
theorem dX6_isWord_25 : decode cX6_isWord 25 = .ok (.ireturn, 1) := by decide +kernel
theorem dX6_isWord_26 : decode cX6_isWord 26 = .ok (.iconst 0, 1) := by decide +kernel
theorem dX6_isWord_27 : decode cX6_isWord 27 = .ok (.istore_n 2, 1) := by decide +kernel
theorem dX6_isWord_28 : decode cX6_isWord 28 = .ok (.iload_n 2, 1) := by decide +kernel
theorem dX6_isWord_29 : decode cX6_isWord 29 = .ok (.aload_n 1, 1) := by decide +kernel
theorem dX6_isWord_30 : decode cX6_isWord 30 = .ok (.invokevirtual 128, 3) := by decide +kernel
theorem dX6_isWord_33 : decode cX6_isWord 33 = .ok (.if_icmp .ge 32, 3) := by decide +kernel
theorem dX6_isWord_36 : decode cX6_isWord 36 = .ok (.aload_n 0, 1) := by decide +kernel
theorem dX6_isWord_37 : decode cX6_isWord 37 = .ok (.getfield 12, 3) := by decide +kernel
theorem dX6_isWord_40 : decode cX6_isWord 40 = .ok (.aload_n 0, 1) := by decide +kernel
theorem dX6_isWord_41 : decode cX6_isWord 41 = .ok (.getfield 125, 3) := by decide +kernel
theorem dX6_isWord_44 : decode cX6_isWord 44 = .ok (.iload_n 2, 1) := by decide +kernel
theorem dX6_isWord_45 : decode cX6_isWord 45 = .ok (.iadd, 1) := by decide +kernel
theorem dX6_isWord_46 : decode cX6_isWord 46 = .ok (.invokevirtual 133, 3) := by decide +kernel
theorem dX6_isWord_49 : decode cX6_isWord 49 = .ok (.aload_n 1, 1) := by decide +kernel
theorem dX6_isWord_50 : decode cX6_isWord 50 = .ok (.iload_n 2, 1) := by decide +kernel
theorem dX6_isWord_51 : decode cX6_isWord 51 = .ok (.invokevirtual 136, 3) := by decide +kernel
theorem dX6_isWord_54 : decode cX6_isWord 54 = .ok (.if_icmp .eq 5, 3) := by decide +kernel
theorem dX6_isWord_57 : decode cX6_isWord 57 = .ok (.iconst 0, 1) := by decide +kernel
theorem dX6_isWord_58 : decode cX6_isWord 58 = .ok (.ireturn, 1) := by decide +kernel
theorem dX6_isWord_59 : decode cX6_isWord 59 = .ok (.iinc 2 1, 3) := by decide +kernel
theorem dX6_isWord_62 : decode cX6_isWord 62 = .ok (.goto (-34), 3) := by decide +kernel
theorem dX6_isWord_65 : decode cX6_isWord 65 = .ok (.iconst 1, 1) := by decide +kernel
theorem dX6_isWord_66 : decode cX6_isWord 66 = .ok (.ireturn, 1) := by decide +kernel
theorem dX6_advance_0 : decode cX6_advance 0 = .ok (.aload_n 0, 1) := by decide +kernel
theorem dX6_advance_1 : decode cX6_advance 1 = .ok (.aload_n 0, 1) := by decide +kernel
theorem dX6_advance_2 : decode cX6_advance 2 = .ok (.getfield 32, 3) := by decide +kernel
theorem dX6_advance_5 : decode cX6_advance 5 = .ok (.putfield 125, 3) := by decide +kernel
theorem dX6_advance_8 : decode cX6_advance 8 = .ok (.aload_n 0, 1) := by decide +kernel
theorem dX6_advance_9 : decode cX6_advance 9 = .ok (.getfield 125, 3) := by decide +kernel
theorem dX6_advance_12 : decode cX6_advance 12 = .ok (.aload_n 0, 1) := by decide +kernel
theorem dX6_advance_13 : decode cX6_advance 13 = .ok (.getfield 12, 3) := by decide +kernel
theorem dX6_advance_16 : decode cX6_advance 16 = .ok (.getfield 140, 3) := by decide +kernel
theorem dX6_advance_19 : decode cX6_advance 19 = .ok (.if_icmp .ge 33, 3) := by decide +kernel
theorem dX6_advance_22 : decode cX6_advance 22 = .ok (.aload_n 0, 1) := by decide +kernel
theorem dX6_advance_23 : decode cX6_advance 23 = .ok (.getfield 12, 3) := by decide +kernel
theorem dX6_advance_26 : decode cX6_advance 26 = .ok (.aload_n 0, 1) := by decide +kernel
theorem dX6_advance_27 : decode cX6_advance 27 = .ok (.getfield 125, 3) := by decide +kernel
theorem dX6_advance_30 : decode cX6_advance 30 = .ok (.invokevirtual 133, 3) := by decide +kernel
theorem dX6_advance_33 : decode cX6_advance 33 = .ok (.invokestatic 142, 3) := by decide +kernel
theorem dX6_advance_36 : decode cX6_advance 36 = .ok (.ifCond .eq 16, 3) := by decide +kernel
theorem dX6_advance_39 : decode cX6_advance 39 = .ok (.aload_n 0, 1) := by decide +kernel
theorem dX6_advance_40 : decode cX6_advance 40 = .ok (.dup, 1) := by decide +kernel
theorem dX6_advance_41 : decode cX6_advance 41 = .ok (.getfield 125, 3) := by decide +kernel
theorem dX6_advance_44 : decode cX6_advance 44 = .ok (.iconst 1, 1) := by decide +kernel
theorem dX6_advance_45 : decode cX6_advance 45 = .ok (.iadd, 1) := by decide +kernel
theorem dX6_advance_46 : decode cX6_advance 46 = .ok (.putfield 125, 3) := by decide +kernel
theorem dX6_advance_49 : decode cX6_advance 49 = .ok (.goto (-41), 3) := by decide +kernel
theorem dX6_advance_52 : decode cX6_advance 52 = .ok (.aload_n 0, 1) := by decide +kernel
theorem dX6_advance_53 : decode cX6_advance 53 = .ok (.getfield 12, 3) := by decide +kernel
theorem dX6_advance_56 : decode cX6_advance 56 = .ok (.aload_n 0, 1) := by decide +kernel
theorem dX6_advance_57 : decode cX6_advance 57 = .ok (.getfield 125, 3) := by decide +kernel
theorem dX6_advance_60 : decode cX6_advance 60 = .ok (.invokevirtual 133, 3) := by decide +kernel
theorem dX6_advance_63 : decode cX6_advance 63 = .ok (.istore_n 1, 1) := by decide +kernel
theorem dX6_advance_64 : decode cX6_advance 64 = .ok (.aload_n 0, 1) := by decide +kernel
theorem dX6_advance_65 : decode cX6_advance 65 = .ok (.getfield 125, 3) := by decide +kernel
theorem dX6_advance_68 : decode cX6_advance 68 = .ok (.aload_n 0, 1) := by decide +kernel
theorem dX6_advance_69 : decode cX6_advance 69 = .ok (.getfield 12, 3) := by decide +kernel
theorem dX6_advance_72 : decode cX6_advance 72 = .ok (.getfield 140, 3) := by decide +kernel
theorem dX6_advance_75 : decode cX6_advance 75 = .ok (.if_icmp .lt 19, 3) := by decide +kernel
theorem dX6_advance_78 : decode cX6_advance 78 = .ok (.aload_n 0, 1) := by decide +kernel
theorem dX6_advance_79 : decode cX6_advance 79 = .ok (.aload_n 0, 1) := by decide +kernel
theorem dX6_advance_80 : decode cX6_advance 80 = .ok (.getfield 125, 3) := by decide +kernel
theorem dX6_advance_83 : decode cX6_advance 83 = .ok (.putfield 32, 3) := by decide +kernel
theorem dX6_advance_86 : decode cX6_advance 86 = .ok (.aload_n 0, 1) := by decide +kernel
theorem dX6_advance_87 : decode cX6_advance 87 = .ok (.iconst 0, 1) := by decide +kernel
theorem dX6_advance_88 : decode cX6_advance 88 = .ok (.putfield 46, 3) := by decide +kernel
theorem dX6_advance_91 : decode cX6_advance 91 = .ok (.goto 56, 3) := by decide +kernel
theorem dX6_advance_94 : decode cX6_advance 94 = .ok (.iload_n 1, 1) := by decide +kernel
theorem dX6_advance_95 : decode cX6_advance 95 = .ok (.invokestatic 145, 3) := by decide +kernel
theorem dX6_advance_98 : decode cX6_advance 98 = .ok (.ifCond .eq 10, 3) := by decide +kernel
theorem dX6_advance_101 : decode cX6_advance 101 = .ok (.aload_n 0, 1) := by decide +kernel
theorem dX6_advance_102 : decode cX6_advance 102 = .ok (.invokevirtual 148, 3) := by decide +kernel
theorem dX6_advance_105 : decode cX6_advance 105 = .ok (.goto 42, 3) := by decide +kernel
theorem dX6_advance_108 : decode cX6_advance 108 = .ok (.iload_n 1, 1) := by decide +kernel
theorem dX6_advance_109 : decode cX6_advance 109 = .ok (.invokestatic 151, 3) := by decide +kernel
theorem dX6_advance_112 : decode cX6_advance 112 = .ok (.ifCond .eq 10, 3) := by decide +kernel
theorem dX6_advance_115 : decode cX6_advance 115 = .ok (.aload_n 0, 1) := by decide +kernel
theorem dX6_advance_116 : decode cX6_advance 116 = .ok (.invokevirtual 154, 3) := by decide +kernel
theorem dX6_advance_119 : decode cX6_advance 119 = .ok (.goto 28, 3) := by decide +kernel
theorem dX6_advance_122 : decode cX6_advance 122 = .ok (.aload_n 0, 1) := by decide +kernel
theorem dX6_advance_123 : decode cX6_advance 123 = .ok (.aload_n 0, 1) := by decide +kernel
theorem dX6_advance_124 : decode cX6_advance 124 = .ok (.getfield 125, 3) := by decide +kernel
theorem dX6_advance_127 : decode cX6_advance 127 = .ok (.iconst 1, 1) := by decide +kernel
theorem dX6_advance_128 : decode cX6_advance 128 = .ok (.iadd, 1) := by decide +kernel
theorem dX6_advance_129 : decode cX6_advance 129 = .ok (.putfield 32, 3) := by decide +kernel
theorem dX6_advance_132 : decode cX6_advance 132 = .ok (.aload_n 0, 1) := by decide +kernel
theorem dX6_advance_133 : decode cX6_advance 133 = .ok (.iload_n 1, 1) := by decide +kernel
theorem dX6_advance_134 : decode cX6_advance 134 = .ok (.bipush 59, 2) := by decide +kernel
theorem dX6_advance_136 : decode cX6_advance 136 = .ok (.if_icmp .ne 7, 3) := by decide +kernel
theorem dX6_advance_139 : decode cX6_advance 139 = .ok (.iconst 3, 1) := by decide +kernel
theorem dX6_advance_140 : decode cX6_advance 140 = .ok (.goto 4, 3) := by decide +kernel
theorem dX6_advance_143 : decode cX6_advance 143 = .ok (.iconst 4, 1) := by decide +kernel
theorem dX6_advance_144 : decode cX6_advance 144 = .ok (.putfield 46, 3) := by decide +kernel
theorem dX6_advance_147 : decode cX6_advance 147 = .ok (.return_, 1) := by decide +kernel
theorem dX6_advanceWord_0 : decode cX6_advanceWord 0 = .ok (.aload_n 0, 1) := by decide +kernel
theorem dX6_advanceWord_1 : decode cX6_advanceWord 1 = .ok (.aload_n 0, 1) := by decide +kernel
theorem dX6_advanceWord_2 : decode cX6_advanceWord 2 = .ok (.getfield 125, 3) := by decide +kernel
theorem dX6_advanceWord_5 : decode cX6_advanceWord 5 = .ok (.putfield 32, 3) := by decide +kernel
theorem dX6_advanceWord_8 : decode cX6_advanceWord 8 = .ok (.aload_n 0, 1) := by decide +kernel
theorem dX6_advanceWord_9 : decode cX6_advanceWord 9 = .ok (.getfield 32, 3) := by decide +kernel
theorem dX6_advanceWord_12 : decode cX6_advanceWord 12 = .ok (.aload_n 0, 1) := by decide +kernel
theorem dX6_advanceWord_13 : decode cX6_advanceWord 13 = .ok (.getfield 12, 3) := by decide +kernel
theorem dX6_advanceWord_16 : decode cX6_advanceWord 16 = .ok (.getfield 140, 3) := by decide +kernel
theorem dX6_advanceWord_19 : decode cX6_advanceWord 19 = .ok (.if_icmp .ge 33, 3) := by decide +kernel
theorem dX6_advanceWord_22 : decode cX6_advanceWord 22 = .ok (.aload_n 0, 1) := by decide +kernel
theorem dX6_advanceWord_23 : decode cX6_advanceWord 23 = .ok (.getfield 12, 3) := by decide +kernel
theorem dX6_advanceWord_26 : decode cX6_advanceWord 26 = .ok (.aload_n 0, 1) := by decide +kernel
theorem dX6_advanceWord_27 : decode cX6_advanceWord 27 = .ok (.getfield 32, 3) := by decide +kernel
theorem dX6_advanceWord_30 : decode cX6_advanceWord 30 = .ok (.invokevirtual 133, 3) := by decide +kernel
theorem dX6_advanceWord_33 : decode cX6_advanceWord 33 = .ok (.invokestatic 145, 3) := by decide +kernel
theorem dX6_advanceWord_36 : decode cX6_advanceWord 36 = .ok (.ifCond .eq 16, 3) := by decide +kernel
theorem dX6_advanceWord_39 : decode cX6_advanceWord 39 = .ok (.aload_n 0, 1) := by decide +kernel
theorem dX6_advanceWord_40 : decode cX6_advanceWord 40 = .ok (.dup, 1) := by decide +kernel
theorem dX6_advanceWord_41 : decode cX6_advanceWord 41 = .ok (.getfield 32, 3) := by decide +kernel
theorem dX6_advanceWord_44 : decode cX6_advanceWord 44 = .ok (.iconst 1, 1) := by decide +kernel
theorem dX6_advanceWord_45 : decode cX6_advanceWord 45 = .ok (.iadd, 1) := by decide +kernel
theorem dX6_advanceWord_46 : decode cX6_advanceWord 46 = .ok (.putfield 32, 3) := by decide +kernel
theorem dX6_advanceWord_49 : decode cX6_advanceWord 49 = .ok (.goto (-41), 3) := by decide +kernel
theorem dX6_advanceWord_52 : decode cX6_advanceWord 52 = .ok (.aload_n 0, 1) := by decide +kernel
theorem dX6_advanceWord_53 : decode cX6_advanceWord 53 = .ok (.iconst 1, 1) := by decide +kernel
theorem dX6_advanceWord_54 : decode cX6_advanceWord 54 = .ok (.putfield 46, 3) := by decide +kernel
theorem dX6_advanceWord_57 : decode cX6_advanceWord 57 = .ok (.return_, 1) := by decide +kernel
theorem dX6_advanceNumber_0 : decode cX6_advanceNumber 0 = .ok (.aload_n 0, 1) := by decide +kernel
theorem dX6_advanceNumber_1 : decode cX6_advanceNumber 1 = .ok (.aload_n 0, 1) := by decide +kernel
theorem dX6_advanceNumber_2 : decode cX6_advanceNumber 2 = .ok (.getfield 125, 3) := by decide +kernel
theorem dX6_advanceNumber_5 : decode cX6_advanceNumber 5 = .ok (.putfield 32, 3) := by decide +kernel
theorem dX6_advanceNumber_8 : decode cX6_advanceNumber 8 = .ok (.aload_n 0, 1) := by decide +kernel
theorem dX6_advanceNumber_9 : decode cX6_advanceNumber 9 = .ok (.iconst 0, 1) := by decide +kernel
theorem dX6_advanceNumber_10 : decode cX6_advanceNumber 10 = .ok (.putfield 69, 3) := by decide +kernel
theorem dX6_advanceNumber_13 : decode cX6_advanceNumber 13 = .ok (.aload_n 0, 1) := by decide +kernel
theorem dX6_advanceNumber_14 : decode cX6_advanceNumber 14 = .ok (.getfield 32, 3) := by decide +kernel
theorem dX6_advanceNumber_17 : decode cX6_advanceNumber 17 = .ok (.aload_n 0, 1) := by decide +kernel
theorem dX6_advanceNumber_18 : decode cX6_advanceNumber 18 = .ok (.getfield 12, 3) := by decide +kernel
theorem dX6_advanceNumber_21 : decode cX6_advanceNumber 21 = .ok (.getfield 140, 3) := by decide +kernel
theorem dX6_advanceNumber_24 : decode cX6_advanceNumber 24 = .ok (.if_icmp .ge 59, 3) := by decide +kernel
theorem dX6_advanceNumber_27 : decode cX6_advanceNumber 27 = .ok (.aload_n 0, 1) := by decide +kernel
theorem dX6_advanceNumber_28 : decode cX6_advanceNumber 28 = .ok (.getfield 12, 3) := by decide +kernel
theorem dX6_advanceNumber_31 : decode cX6_advanceNumber 31 = .ok (.aload_n 0, 1) := by decide +kernel
theorem dX6_advanceNumber_32 : decode cX6_advanceNumber 32 = .ok (.getfield 32, 3) := by decide +kernel
theorem dX6_advanceNumber_35 : decode cX6_advanceNumber 35 = .ok (.invokevirtual 133, 3) := by decide +kernel
theorem dX6_advanceNumber_38 : decode cX6_advanceNumber 38 = .ok (.invokestatic 151, 3) := by decide +kernel
theorem dX6_advanceNumber_41 : decode cX6_advanceNumber 41 = .ok (.ifCond .eq 42, 3) := by decide +kernel
theorem dX6_advanceNumber_44 : decode cX6_advanceNumber 44 = .ok (.aload_n 0, 1) := by decide +kernel
theorem dX6_advanceNumber_45 : decode cX6_advanceNumber 45 = .ok (.bipush 10, 2) := by decide +kernel
theorem dX6_advanceNumber_47 : decode cX6_advanceNumber 47 = .ok (.aload_n 0, 1) := by decide +kernel
theorem dX6_advanceNumber_48 : decode cX6_advanceNumber 48 = .ok (.getfield 69, 3) := by decide +kernel
theorem dX6_advanceNumber_51 : decode cX6_advanceNumber 51 = .ok (.imul, 1) := by decide +kernel
theorem dX6_advanceNumber_52 : decode cX6_advanceNumber 52 = .ok (.aload_n 0, 1) := by decide +kernel
theorem dX6_advanceNumber_53 : decode cX6_advanceNumber 53 = .ok (.getfield 12, 3) := by decide +kernel
theorem dX6_advanceNumber_56 : decode cX6_advanceNumber 56 = .ok (.aload_n 0, 1) := by decide +kernel
theorem dX6_advanceNumber_57 : decode cX6_advanceNumber 57 = .ok (.getfield 32, 3) := by decide +kernel
theorem dX6_advanceNumber_60 : decode cX6_advanceNumber 60 = .ok (.invokevirtual 133, 3) := by decide +kernel
theorem dX6_advanceNumber_63 : decode cX6_advanceNumber 63 = .ok (.iadd, 1) := by decide +kernel
theorem dX6_advanceNumber_64 : decode cX6_advanceNumber 64 = .ok (.bipush 48, 2) := by decide +kernel
theorem dX6_advanceNumber_66 : decode cX6_advanceNumber 66 = .ok (.isub, 1) := by decide +kernel
theorem dX6_advanceNumber_67 : decode cX6_advanceNumber 67 = .ok (.putfield 69, 3) := by decide +kernel
theorem dX6_advanceNumber_70 : decode cX6_advanceNumber 70 = .ok (.aload_n 0, 1) := by decide +kernel
theorem dX6_advanceNumber_71 : decode cX6_advanceNumber 71 = .ok (.dup, 1) := by decide +kernel
theorem dX6_advanceNumber_72 : decode cX6_advanceNumber 72 = .ok (.getfield 32, 3) := by decide +kernel
theorem dX6_advanceNumber_75 : decode cX6_advanceNumber 75 = .ok (.iconst 1, 1) := by decide +kernel
theorem dX6_advanceNumber_76 : decode cX6_advanceNumber 76 = .ok (.iadd, 1) := by decide +kernel
theorem dX6_advanceNumber_77 : decode cX6_advanceNumber 77 = .ok (.putfield 32, 3) := by decide +kernel
theorem dX6_advanceNumber_80 : decode cX6_advanceNumber 80 = .ok (.goto (-67), 3) := by decide +kernel
theorem dX6_advanceNumber_83 : decode cX6_advanceNumber 83 = .ok (.aload_n 0, 1) := by decide +kernel
theorem dX6_advanceNumber_84 : decode cX6_advanceNumber 84 = .ok (.aload_n 0, 1) := by decide +kernel
theorem dX6_advanceNumber_85 : decode cX6_advanceNumber 85 = .ok (.getfield 32, 3) := by decide +kernel
theorem dX6_advanceNumber_88 : decode cX6_advanceNumber 88 = .ok (.aload_n 0, 1) := by decide +kernel
theorem dX6_advanceNumber_89 : decode cX6_advanceNumber 89 = .ok (.getfield 125, 3) := by decide +kernel
theorem dX6_advanceNumber_92 : decode cX6_advanceNumber 92 = .ok (.isub, 1) := by decide +kernel
theorem dX6_advanceNumber_93 : decode cX6_advanceNumber 93 = .ok (.iconst 2, 1) := by decide +kernel
theorem dX6_advanceNumber_94 : decode cX6_advanceNumber 94 = .ok (.if_icmp .le 7, 3) := by decide +kernel
theorem dX6_advanceNumber_97 : decode cX6_advanceNumber 97 = .ok (.iconst 4, 1) := by decide +kernel
theorem dX6_advanceNumber_98 : decode cX6_advanceNumber 98 = .ok (.goto 4, 3) := by decide +kernel
theorem dX6_advanceNumber_101 : decode cX6_advanceNumber 101 = .ok (.iconst 2, 1) := by decide +kernel
theorem dX6_advanceNumber_102 : decode cX6_advanceNumber 102 = .ok (.putfield 46, 3) := by decide +kernel
theorem dX6_advanceNumber_105 : decode cX6_advanceNumber 105 = .ok (.return_, 1) := by decide +kernel
theorem dX6_isBlank_0 : decode cX6_isBlank 0 = .ok (.iload_n 0, 1) := by decide +kernel
theorem dX6_isBlank_1 : decode cX6_isBlank 1 = .ok (.bipush 32, 2) := by decide +kernel
theorem dX6_isBlank_3 : decode cX6_isBlank 3 = .ok (.if_icmp .eq 9, 3) := by decide +kernel
theorem dX6_isBlank_6 : decode cX6_isBlank 6 = .ok (.iload_n 0, 1) := by decide +kernel
theorem dX6_isBlank_7 : decode cX6_isBlank 7 = .ok (.bipush 10, 2) := by decide +kernel
theorem dX6_isBlank_9 : decode cX6_isBlank 9 = .ok (.if_icmp .ne 7, 3) := by decide +kernel
theorem dX6_isBlank_12 : decode cX6_isBlank 12 = .ok (.iconst 1, 1) := by decide +kernel
theorem dX6_isBlank_13 : decode cX6_isBlank 13 = .ok (.goto 4, 3) := by decide +kernel
theorem dX6_isBlank_16 : decode cX6_isBlank 16 = .ok (.iconst 0, 1) := by decide +kernel
theorem dX6_isBlank_17 : decode cX6_isBlank 17 = .ok (.ireturn, 1) := by decide +kernel
theorem dX6_isLetter_0 : decode cX6_isLetter 0 = .ok (.iload_n 0, 1) := by decide +kernel
theorem dX6_isLetter_1 : decode cX6_isLetter 1 = .ok (.bipush 97, 2) := by decide +kernel
theorem dX6_isLetter_3 : decode cX6_isLetter 3 = .ok (.if_icmp .lt 13, 3) := by decide +kernel
theorem dX6_isLetter_6 : decode cX6_isLetter 6 = .ok (.iload_n 0, 1) := by decide +kernel
theorem dX6_isLetter_7 : decode cX6_isLetter 7 = .ok (.bipush 122, 2) := by decide +kernel
theorem dX6_isLetter_9 : decode cX6_isLetter 9 = .ok (.if_icmp .gt 7, 3) := by decide +kernel
theorem dX6_isLetter_12 : decode cX6_isLetter 12 = .ok (.iconst 1, 1) := by decide +kernel
theorem dX6_isLetter_13 : decode cX6_isLetter 13 = .ok (.goto 4, 3) := by decide +kernel
theorem dX6_isLetter_16 : decode cX6_isLetter 16 = .ok (.iconst 0, 1) := by decide +kernel
theorem dX6_isLetter_17 : decode cX6_isLetter 17 = .ok (.ireturn, 1) := by decide +kernel
theorem dX6_isDigit_0 : decode cX6_isDigit 0 = .ok (.iload_n 0, 1) := by decide +kernel
theorem dX6_isDigit_1 : decode cX6_isDigit 1 = .ok (.bipush 48, 2) := by decide +kernel
theorem dX6_isDigit_3 : decode cX6_isDigit 3 = .ok (.if_icmp .lt 13, 3) := by decide +kernel
theorem dX6_isDigit_6 : decode cX6_isDigit 6 = .ok (.iload_n 0, 1) := by decide +kernel
theorem dX6_isDigit_7 : decode cX6_isDigit 7 = .ok (.bipush 57, 2) := by decide +kernel
theorem dX6_isDigit_9 : decode cX6_isDigit 9 = .ok (.if_icmp .gt 7, 3) := by decide +kernel
theorem dX6_isDigit_12 : decode cX6_isDigit 12 = .ok (.iconst 1, 1) := by decide +kernel
theorem dX6_isDigit_13 : decode cX6_isDigit 13 = .ok (.goto 4, 3) := by decide +kernel
theorem dX6_isDigit_16 : decode cX6_isDigit 16 = .ok (.iconst 0, 1) := by decide +kernel
theorem dX6_isDigit_17 : decode cX6_isDigit 17 = .ok (.ireturn, 1) := by decide +kernel
theorem dX7_init_0 : decode cX7_init 0 = .ok (.aload_n 0, 1) := by decide +kernel
theorem dX7_init_1 : decode cX7_init 1 = .ok (.invokespecial 3, 3) := by decide +kernel
theorem dX7_init_4 : decode cX7_init 4 = .ok (.aload_n 0, 1) := by decide +kernel
theorem dX7_init_5 : decode cX7_init 5 = .ok (.bipush 7, 2) := by decide +kernel
theorem dX7_init_7 : decode cX7_init 7 = .ok (.iconst 3, 1) := by decide +kernel
theorem dX7_init_8 : decode cX7_init 8 = .ok (.multianewarray 9 2, 4) := by decide +kernel
theorem dX7_init_12 : decode cX7_init 12 = .ok (.putfield 11, 3) := by decide +kernel
theorem dX7_init_15 : decode cX7_init 15 = .ok (.aload_n 0, 1) := by decide +kernel
theorem dX7_init_16 : decode cX7_init 16 = .ok (.new 16, 3) := by decide +kernel
theorem dX7_init_19 : decode cX7_init 19 = .ok (.dup, 1) := by decide +kernel
theorem dX7_init_20 : decode cX7_init 20 = .ok (.invokespecial 18, 3) := by decide +kernel
theorem dX7_init_23 : decode cX7_init 23 = .ok (.putfield 19, 3) := by decide +kernel
theorem dX7_init_26 : decode cX7_init 26 = .ok (.aload_n 0, 1) := by decide +kernel
theorem dX7_init_27 : decode cX7_init 27 = .ok (.new 23, 3) := by decide +kernel
theorem dX7_init_30 : decode cX7_init 30 = .ok (.dup, 1) := by decide +kernel
theorem dX7_init_31 : decode cX7_init 31 = .ok (.invokespecial 25, 3) := by decide +kernel
theorem dX7_init_34 : decode cX7_init 34 = .ok (.putfield 26, 3) := by decide +kernel
theorem dX7_init_37 : decode cX7_init 37 = .ok (.aload_n 0, 1) := by decide +kernel
theorem dX7_init_38 : decode cX7_init 38 = .ok (.new 30, 3) := by decide +kernel
theorem dX7_init_41 : decode cX7_init 41 = .ok (.dup, 1) := by decide +kernel
theorem dX7_init_42 : decode cX7_init 42 = .ok (.invokespecial 32, 3) := by decide +kernel
theorem dX7_init_45 : decode cX7_init 45 = .ok (.putfield 33, 3) := by decide +kernel
theorem dX7_init_48 : decode cX7_init 48 = .ok (.aload_n 0, 1) := by decide +kernel
theorem dX7_init_49 : decode cX7_init 49 = .ok (.new 37, 3) := by decide +kernel
theorem dX7_init_52 : decode cX7_init 52 = .ok (.dup, 1) := by decide +kernel
theorem dX7_init_53 : decode cX7_init 53 = .ok (.invokespecial 39, 3) := by decide +kernel
theorem dX7_init_56 : decode cX7_init 56 = .ok (.putfield 40, 3) := by decide +kernel
theorem dX7_init_59 : decode cX7_init 59 = .ok (.return_, 1) := by decide +kernel
theorem dX7_answer_0 : decode cX7_answer 0 = .ok (.iload_n 1, 1) := by decide +kernel
theorem dX7_answer_1 : decode cX7_answer 1 = .ok (.iconst 1, 1) := by decide +kernel
theorem dX7_answer_2 : decode cX7_answer 2 = .ok (.if_icmp .lt 22, 3) := by decide +kernel
theorem dX7_answer_5 : decode cX7_answer 5 = .ok (.iload_n 1, 1) := by decide +kernel
theorem dX7_answer_6 : decode cX7_answer 6 = .ok (.bipush 6, 2) := by decide +kernel
theorem dX7_answer_8 : decode cX7_answer 8 = .ok (.if_icmp .gt 16, 3) := by decide +kernel
theorem dX7_answer_11 : decode cX7_answer 11 = .ok (.iload_n 2, 1) := by decide +kernel
theorem dX7_answer_12 : decode cX7_answer 12 = .ok (.ifCond .lt 12, 3) := by decide +kernel
theorem dX7_answer_15 : decode cX7_answer 15 = .ok (.iload_n 2, 1) := by decide +kernel
theorem dX7_answer_16 : decode cX7_answer 16 = .ok (.iconst 3, 1) := by decide +kernel
theorem dX7_answer_17 : decode cX7_answer 17 = .ok (.if_icmp .ge 7, 3) := by decide +kernel
theorem dX7_answer_20 : decode cX7_answer 20 = .ok (.iconst 1, 1) := by decide +kernel
theorem dX7_answer_21 : decode cX7_answer 21 = .ok (.goto 4, 3) := by decide +kernel
theorem dX7_answer_24 : decode cX7_answer 24 = .ok (.iconst 0, 1) := by decide +kernel
theorem dX7_answer_25 : decode cX7_answer 25 = .ok (.istore_n 3, 1) := by decide +kernel
theorem dX7_answer_26 : decode cX7_answer 26 = .ok (.iload_n 3, 1) := by decide +kernel
theorem dX7_answer_27 : decode cX7_answer 27 = .ok (.ifCond .eq 14, 3) := by decide +kernel
theorem dX7_answer_30 : decode cX7_answer 30 = .ok (.aload_n 0, 1) := by decide +kernel
theorem dX7_answer_31 : decode cX7_answer 31 = .ok (.getfield 11, 3) := by decide +kernel
theorem dX7_answer_34 : decode cX7_answer 34 = .ok (.iload_n 1, 1) := by decide +kernel
theorem dX7_answer_35 : decode cX7_answer 35 = .ok (.aaload, 1) := by decide +kernel
theorem dX7_answer_36 : decode cX7_answer 36 = .ok (.iload_n 2, 1) := by decide +kernel
theorem dX7_answer_37 : decode cX7_answer 37 = .ok (.iaload, 1) := by decide +kernel
theorem dX7_answer_38 : decode cX7_answer 38 = .ok (.goto 4, 3) := by decide +kernel
theorem dX7_answer_41 : decode cX7_answer 41 = .ok (.iconst (-1), 1) := by decide +kernel
theorem dX7_answer_42 : decode cX7_answer 42 = .ok (.ireturn, 1) := by decide +kernel
theorem dX7_goThrough_0 : decode cX7_goThrough 0 = .ok (.iload_n 1, 1) := by decide +kernel
theorem dX7_goThrough_1 : decode cX7_goThrough 1 = .ok (.iconst 1, 1) := by decide +kernel
theorem dX7_goThrough_2 : decode cX7_goThrough 2 = .ok (.if_icmp .lt 20, 3) := by decide +kernel
theorem dX7_goThrough_5 : decode cX7_goThrough 5 = .ok (.iload_n 1, 1) := by decide +kernel
theorem dX7_goThrough_6 : decode cX7_goThrough 6 = .ok (.bipush 6, 2) := by decide +kernel
theorem dX7_goThrough_8 : decode cX7_goThrough 8 = .ok (.if_icmp .gt 14, 3) := by decide +kernel
theorem dX7_goThrough_11 : decode cX7_goThrough 11 = .ok (.aload_n 0, 1) := by decide +kernel
theorem dX7_goThrough_12 : decode cX7_goThrough 12 = .ok (.getfield 11, 3) := by decide +kernel
theorem dX7_goThrough_15 : decode cX7_goThrough 15 = .ok (.iload_n 1, 1) := by decide +kernel
theorem dX7_goThrough_16 : decode cX7_goThrough 16 = .ok (.aaload, 1) := by decide +kernel
theorem dX7_goThrough_17 : decode cX7_goThrough 17 = .ok (.iconst 0, 1) := by decide +kernel
theorem dX7_goThrough_18 : decode cX7_goThrough 18 = .ok (.iaload, 1) := by decide +kernel
theorem dX7_goThrough_19 : decode cX7_goThrough 19 = .ok (.ifCond .eq 4, 3) := by decide +kernel
theorem dX7_goThrough_22 : decode cX7_goThrough 22 = .ok (.return_, 1) := by decide +kernel
theorem dX7_goThrough_23 : decode cX7_goThrough 23 = .ok (.aload_n 0, 1) := by decide +kernel
theorem dX7_goThrough_24 : decode cX7_goThrough 24 = .ok (.getfield 40, 3) := by decide +kernel
theorem dX7_goThrough_27 : decode cX7_goThrough 27 = .ok (.invokevirtual 44, 3) := by decide +kernel
theorem dX7_goThrough_30 : decode cX7_goThrough 30 = .ok (.aload_n 0, 1) := by decide +kernel
theorem dX7_goThrough_31 : decode cX7_goThrough 31 = .ok (.getfield 19, 3) := by decide +kernel
theorem dX7_goThrough_34 : decode cX7_goThrough 34 = .ok (.iload_n 1, 1) := by decide +kernel
theorem dX7_goThrough_35 : decode cX7_goThrough 35 = .ok (.invokevirtual 47, 3) := by decide +kernel
theorem dX7_goThrough_38 : decode cX7_goThrough 38 = .ok (.iconst (-1), 1) := by decide +kernel
theorem dX7_goThrough_39 : decode cX7_goThrough 39 = .ok (.istore_n 2, 1) := by decide +kernel
theorem dX7_goThrough_40 : decode cX7_goThrough 40 = .ok (.iconst 0, 1) := by decide +kernel
theorem dX7_goThrough_41 : decode cX7_goThrough 41 = .ok (.istore_n 3, 1) := by decide +kernel
theorem dX7_goThrough_42 : decode cX7_goThrough 42 = .ok (.iconst 0, 1) := by decide +kernel
theorem dX7_goThrough_43 : decode cX7_goThrough 43 = .ok (.istore 4, 2) := by decide +kernel
theorem dX7_goThrough_45 : decode cX7_goThrough 45 = .ok (.iload 4, 2) := by decide +kernel
theorem dX7_goThrough_47 : decode cX7_goThrough 47 = .ok (.iload_n 1, 1) := by decide +kernel
theorem dX7_goThrough_48 : decode cX7_goThrough 48 = .ok (.invokestatic 51, 3) := by decide +kernel
theorem dX7_goThrough_51 : decode cX7_goThrough 51 = .ok (.if_icmp .ge 101, 3) := by decide +kernel
theorem dX7_goThrough_54 : decode cX7_goThrough 54 = .ok (.aload_n 0, 1) := by decide +kernel
theorem dX7_goThrough_55 : decode cX7_goThrough 55 = .ok (.getfield 26, 3) := by decide +kernel
theorem dX7_goThrough_58 : decode cX7_goThrough 58 = .ok (.iload_n 1, 1) := by decide +kernel
theorem dX7_goThrough_59 : decode cX7_goThrough 59 = .ok (.iload 4, 2) := by decide +kernel
theorem dX7_goThrough_61 : decode cX7_goThrough 61 = .ok (.invokevirtual 55, 3) := by decide +kernel
theorem dX7_goThrough_64 : decode cX7_goThrough 64 = .ok (.aload_n 0, 1) := by decide +kernel
theorem dX7_goThrough_65 : decode cX7_goThrough 65 = .ok (.getfield 26, 3) := by decide +kernel
theorem dX7_goThrough_68 : decode cX7_goThrough 68 = .ok (.aload_n 0, 1) := by decide +kernel
theorem dX7_goThrough_69 : decode cX7_goThrough 69 = .ok (.getfield 19, 3) := by decide +kernel
theorem dX7_goThrough_72 : decode cX7_goThrough 72 = .ok (.invokevirtual 59, 3) := by decide +kernel
theorem dX7_goThrough_75 : decode cX7_goThrough 75 = .ok (.aload_n 0, 1) := by decide +kernel
theorem dX7_goThrough_76 : decode cX7_goThrough 76 = .ok (.getfield 40, 3) := by decide +kernel
theorem dX7_goThrough_79 : decode cX7_goThrough 79 = .ok (.getfield 63, 3) := by decide +kernel
theorem dX7_goThrough_82 : decode cX7_goThrough 82 = .ok (.istore 5, 2) := by decide +kernel
theorem dX7_goThrough_84 : decode cX7_goThrough 84 = .ok (.aload_n 0, 1) := by decide +kernel
theorem dX7_goThrough_85 : decode cX7_goThrough 85 = .ok (.getfield 40, 3) := by decide +kernel
theorem dX7_goThrough_88 : decode cX7_goThrough 88 = .ok (.aload_n 0, 1) := by decide +kernel
theorem dX7_goThrough_89 : decode cX7_goThrough 89 = .ok (.getfield 33, 3) := by decide +kernel
theorem dX7_goThrough_92 : decode cX7_goThrough 92 = .ok (.aload_n 0, 1) := by decide +kernel
theorem dX7_goThrough_93 : decode cX7_goThrough 93 = .ok (.getfield 19, 3) := by decide +kernel
theorem dX7_goThrough_96 : decode cX7_goThrough 96 = .ok (.aload_n 0, 1) := by decide +kernel
theorem dX7_goThrough_97 : decode cX7_goThrough 97 = .ok (.getfield 19, 3) := by decide +kernel
theorem dX7_goThrough_100 : decode cX7_goThrough 100 = .ok (.invokevirtual 67, 3) := by decide +kernel
theorem dX7_goThrough_103 : decode cX7_goThrough 103 = .ok (.invokevirtual 71, 3) := by decide +kernel
theorem dX7_goThrough_106 : decode cX7_goThrough 106 = .ok (.invokevirtual 75, 3) := by decide +kernel
theorem dX7_goThrough_109 : decode cX7_goThrough 109 = .ok (.pop, 1) := by decide +kernel
theorem dX7_goThrough_110 : decode cX7_goThrough 110 = .ok (.aload_n 0, 1) := by decide +kernel
theorem dX7_goThrough_111 : decode cX7_goThrough 111 = .ok (.getfield 40, 3) := by decide +kernel
theorem dX7_goThrough_114 : decode cX7_goThrough 114 = .ok (.getfield 63, 3) := by decide +kernel
theorem dX7_goThrough_117 : decode cX7_goThrough 117 = .ok (.iload 5, 2) := by decide +kernel
theorem dX7_goThrough_119 : decode cX7_goThrough 119 = .ok (.if_icmp .le 8, 3) := by decide +kernel
theorem dX7_goThrough_122 : decode cX7_goThrough 122 = .ok (.iload 4, 2) := by decide +kernel
theorem dX7_goThrough_124 : decode cX7_goThrough 124 = .ok (.goto 4, 3) := by decide +kernel
theorem dX7_goThrough_127 : decode cX7_goThrough 127 = .ok (.iload_n 2, 1) := by decide +kernel
theorem dX7_goThrough_128 : decode cX7_goThrough 128 = .ok (.istore_n 2, 1) := by decide +kernel
theorem dX7_goThrough_129 : decode cX7_goThrough 129 = .ok (.iload_n 3, 1) := by decide +kernel
theorem dX7_goThrough_130 : decode cX7_goThrough 130 = .ok (.aload_n 0, 1) := by decide +kernel
theorem dX7_goThrough_131 : decode cX7_goThrough 131 = .ok (.getfield 19, 3) := by decide +kernel
theorem dX7_goThrough_134 : decode cX7_goThrough 134 = .ok (.aload_n 0, 1) := by decide +kernel
theorem dX7_goThrough_135 : decode cX7_goThrough 135 = .ok (.getfield 19, 3) := by decide +kernel
theorem dX7_goThrough_138 : decode cX7_goThrough 138 = .ok (.invokevirtual 67, 3) := by decide +kernel
theorem dX7_goThrough_141 : decode cX7_goThrough 141 = .ok (.invokevirtual 78, 3) := by decide +kernel
theorem dX7_goThrough_144 : decode cX7_goThrough 144 = .ok (.iadd, 1) := by decide +kernel
theorem dX7_goThrough_145 : decode cX7_goThrough 145 = .ok (.istore_n 3, 1) := by decide +kernel
theorem dX7_goThrough_146 : decode cX7_goThrough 146 = .ok (.iinc 4 1, 3) := by decide +kernel
theorem dX7_goThrough_149 : decode cX7_goThrough 149 = .ok (.goto (-104), 3) := by decide +kernel
theorem dX7_goThrough_152 : decode cX7_goThrough 152 = .ok (.aload_n 0, 1) := by decide +kernel
theorem dX7_goThrough_153 : decode cX7_goThrough 153 = .ok (.getfield 11, 3) := by decide +kernel
theorem dX7_goThrough_156 : decode cX7_goThrough 156 = .ok (.iload_n 1, 1) := by decide +kernel
theorem dX7_goThrough_157 : decode cX7_goThrough 157 = .ok (.aaload, 1) := by decide +kernel
theorem dX7_goThrough_158 : decode cX7_goThrough 158 = .ok (.iconst 0, 1) := by decide +kernel
theorem dX7_goThrough_159 : decode cX7_goThrough 159 = .ok (.aload_n 0, 1) := by decide +kernel
theorem dX7_goThrough_160 : decode cX7_goThrough 160 = .ok (.getfield 40, 3) := by decide +kernel
theorem dX7_goThrough_163 : decode cX7_goThrough 163 = .ok (.getfield 63, 3) := by decide +kernel
theorem dX7_goThrough_166 : decode cX7_goThrough 166 = .ok (.iastore, 1) := by decide +kernel
theorem dX7_goThrough_167 : decode cX7_goThrough 167 = .ok (.aload_n 0, 1) := by decide +kernel
theorem dX7_goThrough_168 : decode cX7_goThrough 168 = .ok (.getfield 11, 3) := by decide +kernel
theorem dX7_goThrough_171 : decode cX7_goThrough 171 = .ok (.iload_n 1, 1) := by decide +kernel
theorem dX7_goThrough_172 : decode cX7_goThrough 172 = .ok (.aaload, 1) := by decide +kernel
theorem dX7_goThrough_173 : decode cX7_goThrough 173 = .ok (.iconst 1, 1) := by decide +kernel
theorem dX7_goThrough_174 : decode cX7_goThrough 174 = .ok (.iload_n 2, 1) := by decide +kernel
theorem dX7_goThrough_175 : decode cX7_goThrough 175 = .ok (.iastore, 1) := by decide +kernel
theorem dX7_goThrough_176 : decode cX7_goThrough 176 = .ok (.aload_n 0, 1) := by decide +kernel
theorem dX7_goThrough_177 : decode cX7_goThrough 177 = .ok (.getfield 11, 3) := by decide +kernel
theorem dX7_goThrough_180 : decode cX7_goThrough 180 = .ok (.iload_n 1, 1) := by decide +kernel
theorem dX7_goThrough_181 : decode cX7_goThrough 181 = .ok (.aaload, 1) := by decide +kernel
theorem dX7_goThrough_182 : decode cX7_goThrough 182 = .ok (.iconst 2, 1) := by decide +kernel
theorem dX7_goThrough_183 : decode cX7_goThrough 183 = .ok (.iload_n 3, 1) := by decide +kernel
theorem dX7_goThrough_184 : decode cX7_goThrough 184 = .ok (.iastore, 1) := by decide +kernel
theorem dX7_goThrough_185 : decode cX7_goThrough 185 = .ok (.return_, 1) := by decide +kernel
theorem dX8_init_0 : decode cX8_init 0 = .ok (.aload_n 0, 1) := by decide +kernel
theorem dX8_init_1 : decode cX8_init 1 = .ok (.invokespecial 3, 3) := by decide +kernel
theorem dX8_init_4 : decode cX8_init 4 = .ok (.aload_n 0, 1) := by decide +kernel
theorem dX8_init_5 : decode cX8_init 5 = .ok (.bipush 10, 2) := by decide +kernel
theorem dX8_init_7 : decode cX8_init 7 = .ok (.newarray .int, 2) := by decide +kernel
theorem dX8_init_9 : decode cX8_init 9 = .ok (.putfield 9, 3) := by decide +kernel
theorem dX8_init_12 : decode cX8_init 12 = .ok (.aload_n 0, 1) := by decide +kernel
theorem dX8_init_13 : decode cX8_init 13 = .ok (.bipush 10, 2) := by decide +kernel
theorem dX8_init_15 : decode cX8_init 15 = .ok (.newarray .int, 2) := by decide +kernel
theorem dX8_init_17 : decode cX8_init 17 = .ok (.putfield 15, 3) := by decide +kernel
theorem dX8_init_20 : decode cX8_init 20 = .ok (.aload_n 0, 1) := by decide +kernel
theorem dX8_init_21 : decode cX8_init 21 = .ok (.bipush 10, 2) := by decide +kernel
theorem dX8_init_23 : decode cX8_init 23 = .ok (.newarray .int, 2) := by decide +kernel
theorem dX8_init_25 : decode cX8_init 25 = .ok (.putfield 18, 3) := by decide +kernel
theorem dX8_init_28 : decode cX8_init 28 = .ok (.aload_n 0, 1) := by decide +kernel
theorem dX8_init_29 : decode cX8_init 29 = .ok (.bipush 10, 2) := by decide +kernel
theorem dX8_init_31 : decode cX8_init 31 = .ok (.newarray .int, 2) := by decide +kernel
theorem dX8_init_33 : decode cX8_init 33 = .ok (.putfield 21, 3) := by decide +kernel
theorem dX8_init_36 : decode cX8_init 36 = .ok (.aload_n 0, 1) := by decide +kernel
theorem dX8_init_37 : decode cX8_init 37 = .ok (.bipush 10, 2) := by decide +kernel
theorem dX8_init_39 : decode cX8_init 39 = .ok (.newarray .int, 2) := by decide +kernel
theorem dX8_init_41 : decode cX8_init 41 = .ok (.putfield 24, 3) := by decide +kernel
theorem dX8_init_44 : decode cX8_init 44 = .ok (.aload_n 0, 1) := by decide +kernel
theorem dX8_init_45 : decode cX8_init 45 = .ok (.new 27, 3) := by decide +kernel
theorem dX8_init_48 : decode cX8_init 48 = .ok (.dup, 1) := by decide +kernel
theorem dX8_init_49 : decode cX8_init 49 = .ok (.invokespecial 29, 3) := by decide +kernel
theorem dX8_init_52 : decode cX8_init 52 = .ok (.putfield 30, 3) := by decide +kernel
theorem dX8_init_55 : decode cX8_init 55 = .ok (.return_, 1) := by decide +kernel
theorem dX8_signAt_0 : decode cX8_signAt 0 = .ok (.iload_n 0, 1) := by decide +kernel
theorem dX8_signAt_1 : decode cX8_signAt 1 = .ok (.bipush 19, 2) := by decide +kernel
theorem dX8_signAt_3 : decode cX8_signAt 3 = .ok (.iload_n 1, 1) := by decide +kernel
theorem dX8_signAt_4 : decode cX8_signAt 4 = .ok (.isub, 1) := by decide +kernel
theorem dX8_signAt_5 : decode cX8_signAt 5 = .ok (.invokestatic 34, 3) := by decide +kernel
theorem dX8_signAt_8 : decode cX8_signAt 8 = .ok (.ifCond .eq 8, 3) := by decide +kernel
theorem dX8_signAt_11 : decode cX8_signAt 11 = .ok (.bipush 41, 2) := by decide +kernel
theorem dX8_signAt_13 : decode cX8_signAt 13 = .ok (.goto 5, 3) := by decide +kernel
theorem dX8_signAt_16 : decode cX8_signAt 16 = .ok (.bipush 40, 2) := by decide +kernel
theorem dX8_signAt_18 : decode cX8_signAt 18 = .ok (.ireturn, 1) := by decide +kernel
theorem dX8_wordFrom_0 : decode cX8_wordFrom 0 = .ok (.aload_n 1, 1) := by decide +kernel
theorem dX8_wordFrom_1 : decode cX8_wordFrom 1 = .ok (.iload_n 2, 1) := by decide +kernel
theorem dX8_wordFrom_2 : decode cX8_wordFrom 2 = .ok (.invokevirtual 38, 3) := by decide +kernel
theorem dX8_wordFrom_5 : decode cX8_wordFrom 5 = .ok (.ifCond .ne 5, 3) := by decide +kernel
theorem dX8_wordFrom_8 : decode cX8_wordFrom 8 = .ok (.iconst (-1), 1) := by decide +kernel
theorem dX8_wordFrom_9 : decode cX8_wordFrom 9 = .ok (.ireturn, 1) := by decide +kernel
theorem dX8_wordFrom_10 : decode cX8_wordFrom 10 = .ok (.iconst 0, 1) := by decide +kernel
theorem dX8_wordFrom_11 : decode cX8_wordFrom 11 = .ok (.istore_n 3, 1) := by decide +kernel
theorem dX8_wordFrom_12 : decode cX8_wordFrom 12 = .ok (.aload_n 0, 1) := by decide +kernel
theorem dX8_wordFrom_13 : decode cX8_wordFrom 13 = .ok (.aload_n 1, 1) := by decide +kernel
theorem dX8_wordFrom_14 : decode cX8_wordFrom 14 = .ok (.iload_n 2, 1) := by decide +kernel
theorem dX8_wordFrom_15 : decode cX8_wordFrom 15 = .ok (.invokevirtual 44, 3) := by decide +kernel
theorem dX8_wordFrom_18 : decode cX8_wordFrom 18 = .ok (.iconst 1, 1) := by decide +kernel
theorem dX8_wordFrom_19 : decode cX8_wordFrom 19 = .ok (.isub, 1) := by decide +kernel
theorem dX8_wordFrom_20 : decode cX8_wordFrom 20 = .ok (.istore 4, 2) := by decide +kernel
theorem dX8_wordFrom_22 : decode cX8_wordFrom 22 = .ok (.iload 4, 2) := by decide +kernel
theorem dX8_wordFrom_24 : decode cX8_wordFrom 24 = .ok (.ifCond .lt 64, 3) := by decide +kernel
theorem dX8_wordFrom_27 : decode cX8_wordFrom 27 = .ok (.iconst 0, 1) := by decide +kernel
theorem dX8_wordFrom_28 : decode cX8_wordFrom 28 = .ok (.istore 5, 2) := by decide +kernel
theorem dX8_wordFrom_30 : decode cX8_wordFrom 30 = .ok (.iload 5, 2) := by decide +kernel
theorem dX8_wordFrom_32 : decode cX8_wordFrom 32 = .ok (.aload_n 1, 1) := by decide +kernel
theorem dX8_wordFrom_33 : decode cX8_wordFrom 33 = .ok (.getfield 48, 3) := by decide +kernel
theorem dX8_wordFrom_36 : decode cX8_wordFrom 36 = .ok (.if_icmp .ge 38, 3) := by decide +kernel
theorem dX8_wordFrom_39 : decode cX8_wordFrom 39 = .ok (.aload_n 0, 1) := by decide +kernel
theorem dX8_wordFrom_40 : decode cX8_wordFrom 40 = .ok (.getfield 9, 3) := by decide +kernel
theorem dX8_wordFrom_43 : decode cX8_wordFrom 43 = .ok (.iload 4, 2) := by decide +kernel
theorem dX8_wordFrom_45 : decode cX8_wordFrom 45 = .ok (.iaload, 1) := by decide +kernel
theorem dX8_wordFrom_46 : decode cX8_wordFrom 46 = .ok (.iload 5, 2) := by decide +kernel
theorem dX8_wordFrom_48 : decode cX8_wordFrom 48 = .ok (.invokestatic 34, 3) := by decide +kernel
theorem dX8_wordFrom_51 : decode cX8_wordFrom 51 = .ok (.ifCond .eq 17, 3) := by decide +kernel
theorem dX8_wordFrom_54 : decode cX8_wordFrom 54 = .ok (.aload_n 0, 1) := by decide +kernel
theorem dX8_wordFrom_55 : decode cX8_wordFrom 55 = .ok (.iload 5, 2) := by decide +kernel
theorem dX8_wordFrom_57 : decode cX8_wordFrom 57 = .ok (.aload_n 1, 1) := by decide +kernel
theorem dX8_wordFrom_58 : decode cX8_wordFrom 58 = .ok (.iload 5, 2) := by decide +kernel
theorem dX8_wordFrom_60 : decode cX8_wordFrom 60 = .ok (.invokevirtual 52, 3) := by decide +kernel
theorem dX8_wordFrom_63 : decode cX8_wordFrom 63 = .ok (.iload_n 3, 1) := by decide +kernel
theorem dX8_wordFrom_64 : decode cX8_wordFrom 64 = .ok (.iand, 1) := by decide +kernel
theorem dX8_wordFrom_65 : decode cX8_wordFrom 65 = .ok (.invokevirtual 56, 3) := by decide +kernel
theorem dX8_wordFrom_68 : decode cX8_wordFrom 68 = .ok (.iinc 5 1, 3) := by decide +kernel
theorem dX8_wordFrom_71 : decode cX8_wordFrom 71 = .ok (.goto (-41), 3) := by decide +kernel
theorem dX8_wordFrom_74 : decode cX8_wordFrom 74 = .ok (.aload_n 0, 1) := by decide +kernel
theorem dX8_wordFrom_75 : decode cX8_wordFrom 75 = .ok (.getfield 9, 3) := by decide +kernel
theorem dX8_wordFrom_78 : decode cX8_wordFrom 78 = .ok (.iload 4, 2) := by decide +kernel
theorem dX8_wordFrom_80 : decode cX8_wordFrom 80 = .ok (.iaload, 1) := by decide +kernel
theorem dX8_wordFrom_81 : decode cX8_wordFrom 81 = .ok (.istore_n 3, 1) := by decide +kernel
theorem dX8_wordFrom_82 : decode cX8_wordFrom 82 = .ok (.iinc 4 (-1), 3) := by decide +kernel
theorem dX8_wordFrom_85 : decode cX8_wordFrom 85 = .ok (.goto (-63), 3) := by decide +kernel
theorem dX8_wordFrom_88 : decode cX8_wordFrom 88 = .ok (.aload_n 0, 1) := by decide +kernel
theorem dX8_wordFrom_89 : decode cX8_wordFrom 89 = .ok (.getfield 15, 3) := by decide +kernel
theorem dX8_wordFrom_92 : decode cX8_wordFrom 92 = .ok (.iload_n 2, 1) := by decide +kernel
theorem dX8_wordFrom_93 : decode cX8_wordFrom 93 = .ok (.iaload, 1) := by decide +kernel
theorem dX8_wordFrom_94 : decode cX8_wordFrom 94 = .ok (.ireturn, 1) := by decide +kernel
theorem dX8_layLevels_0 : decode cX8_layLevels 0 = .ok (.iconst 0, 1) := by decide +kernel
theorem dX8_layLevels_1 : decode cX8_layLevels 1 = .ok (.istore_n 3, 1) := by decide +kernel
theorem dX8_layLevels_2 : decode cX8_layLevels 2 = .ok (.iconst 1, 1) := by decide +kernel
theorem dX8_layLevels_3 : decode cX8_layLevels 3 = .ok (.iload_n 2, 1) := by decide +kernel
theorem dX8_layLevels_4 : decode cX8_layLevels 4 = .ok (.ishl, 1) := by decide +kernel
theorem dX8_layLevels_5 : decode cX8_layLevels 5 = .ok (.istore 4, 2) := by decide +kernel
theorem dX8_layLevels_7 : decode cX8_layLevels 7 = .ok (.iconst 0, 1) := by decide +kernel
theorem dX8_layLevels_8 : decode cX8_layLevels 8 = .ok (.istore 5, 2) := by decide +kernel
theorem dX8_layLevels_10 : decode cX8_layLevels 10 = .ok (.iload 4, 2) := by decide +kernel
theorem dX8_layLevels_12 : decode cX8_layLevels 12 = .ok (.ifCond .eq 42, 3) := by decide +kernel
theorem dX8_layLevels_15 : decode cX8_layLevels 15 = .ok (.iload 5, 2) := by decide +kernel
theorem dX8_layLevels_17 : decode cX8_layLevels 17 = .ok (.bipush 10, 2) := by decide +kernel
theorem dX8_layLevels_19 : decode cX8_layLevels 19 = .ok (.if_icmp .ge 35, 3) := by decide +kernel
theorem dX8_layLevels_22 : decode cX8_layLevels 22 = .ok (.aload_n 0, 1) := by decide +kernel
theorem dX8_layLevels_23 : decode cX8_layLevels 23 = .ok (.getfield 9, 3) := by decide +kernel
theorem dX8_layLevels_26 : decode cX8_layLevels 26 = .ok (.iload 5, 2) := by decide +kernel
theorem dX8_layLevels_28 : decode cX8_layLevels 28 = .ok (.iload 4, 2) := by decide +kernel
theorem dX8_layLevels_30 : decode cX8_layLevels 30 = .ok (.iastore, 1) := by decide +kernel
theorem dX8_layLevels_31 : decode cX8_layLevels 31 = .ok (.iinc 5 1, 3) := by decide +kernel
theorem dX8_layLevels_34 : decode cX8_layLevels 34 = .ok (.iload_n 3, 1) := by decide +kernel
theorem dX8_layLevels_35 : decode cX8_layLevels 35 = .ok (.iload 4, 2) := by decide +kernel
theorem dX8_layLevels_37 : decode cX8_layLevels 37 = .ok (.ior, 1) := by decide +kernel
theorem dX8_layLevels_38 : decode cX8_layLevels 38 = .ok (.istore_n 3, 1) := by decide +kernel
theorem dX8_layLevels_39 : decode cX8_layLevels 39 = .ok (.aload_n 1, 1) := by decide +kernel
theorem dX8_layLevels_40 : decode cX8_layLevels 40 = .ok (.iload 4, 2) := by decide +kernel
theorem dX8_layLevels_42 : decode cX8_layLevels 42 = .ok (.invokevirtual 60, 3) := by decide +kernel
theorem dX8_layLevels_45 : decode cX8_layLevels 45 = .ok (.iload_n 3, 1) := by decide +kernel
theorem dX8_layLevels_46 : decode cX8_layLevels 46 = .ok (.iconst (-1), 1) := by decide +kernel
theorem dX8_layLevels_47 : decode cX8_layLevels 47 = .ok (.ixor, 1) := by decide +kernel
theorem dX8_layLevels_48 : decode cX8_layLevels 48 = .ok (.iand, 1) := by decide +kernel
theorem dX8_layLevels_49 : decode cX8_layLevels 49 = .ok (.istore 4, 2) := by decide +kernel
theorem dX8_layLevels_51 : decode cX8_layLevels 51 = .ok (.goto (-41), 3) := by decide +kernel
theorem dX8_layLevels_54 : decode cX8_layLevels 54 = .ok (.iload 5, 2) := by decide +kernel
theorem dX8_layLevels_56 : decode cX8_layLevels 56 = .ok (.ireturn, 1) := by decide +kernel
theorem dX8_assemble_0 : decode cX8_assemble 0 = .ok (.iconst 0, 1) := by decide +kernel
theorem dX8_assemble_1 : decode cX8_assemble 1 = .ok (.istore_n 3, 1) := by decide +kernel
theorem dX8_assemble_2 : decode cX8_assemble 2 = .ok (.iconst 1, 1) := by decide +kernel
theorem dX8_assemble_3 : decode cX8_assemble 3 = .ok (.istore 4, 2) := by decide +kernel
theorem dX8_assemble_5 : decode cX8_assemble 5 = .ok (.iconst 1, 1) := by decide +kernel
theorem dX8_assemble_6 : decode cX8_assemble 6 = .ok (.istore 5, 2) := by decide +kernel
theorem dX8_assemble_8 : decode cX8_assemble 8 = .ok (.iconst (-1), 1) := by decide +kernel
theorem dX8_assemble_9 : decode cX8_assemble 9 = .ok (.istore 6, 2) := by decide +kernel
theorem dX8_assemble_11 : decode cX8_assemble 11 = .ok (.iconst 0, 1) := by decide +kernel
theorem dX8_assemble_12 : decode cX8_assemble 12 = .ok (.istore 7, 2) := by decide +kernel
theorem dX8_assemble_14 : decode cX8_assemble 14 = .ok (.iconst 0, 1) := by decide +kernel
theorem dX8_assemble_15 : decode cX8_assemble 15 = .ok (.istore 8, 2) := by decide +kernel
theorem dX8_assemble_17 : decode cX8_assemble 17 = .ok (.iload_n 2, 1) := by decide +kernel
theorem dX8_assemble_18 : decode cX8_assemble 18 = .ok (.istore 9, 2) := by decide +kernel
theorem dX8_assemble_20 : decode cX8_assemble 20 = .ok (.iconst 0, 1) := by decide +kernel
theorem dX8_assemble_21 : decode cX8_assemble 21 = .ok (.istore 10, 2) := by decide +kernel
theorem dX8_assemble_23 : decode cX8_assemble 23 = .ok (.iload 10, 2) := by decide +kernel
theorem dX8_assemble_25 : decode cX8_assemble 25 = .ok (.bipush 10, 2) := by decide +kernel
theorem dX8_assemble_27 : decode cX8_assemble 27 = .ok (.if_icmp .ge 116, 3) := by decide +kernel
theorem dX8_assemble_30 : decode cX8_assemble 30 = .ok (.iload 9, 2) := by decide +kernel
theorem dX8_assemble_32 : decode cX8_assemble 32 = .ok (.ifCond .eq 111, 3) := by decide +kernel
theorem dX8_assemble_35 : decode cX8_assemble 35 = .ok (.aload_n 0, 1) := by decide +kernel
theorem dX8_assemble_36 : decode cX8_assemble 36 = .ok (.iload 9, 2) := by decide +kernel
theorem dX8_assemble_38 : decode cX8_assemble 38 = .ok (.invokevirtual 63, 3) := by decide +kernel
theorem dX8_assemble_41 : decode cX8_assemble 41 = .ok (.istore 11, 2) := by decide +kernel
theorem dX8_assemble_43 : decode cX8_assemble 43 = .ok (.aload_n 0, 1) := by decide +kernel
theorem dX8_assemble_44 : decode cX8_assemble 44 = .ok (.getfield 15, 3) := by decide +kernel
theorem dX8_assemble_47 : decode cX8_assemble 47 = .ok (.iload 11, 2) := by decide +kernel
theorem dX8_assemble_49 : decode cX8_assemble 49 = .ok (.iaload, 1) := by decide +kernel
theorem dX8_assemble_50 : decode cX8_assemble 50 = .ok (.iload 6, 2) := by decide +kernel
theorem dX8_assemble_52 : decode cX8_assemble 52 = .ok (.if_icmp .ne 10, 3) := by decide +kernel
theorem dX8_assemble_55 : decode cX8_assemble 55 = .ok (.iload 7, 2) := by decide +kernel
theorem dX8_assemble_57 : decode cX8_assemble 57 = .ok (.iconst 1, 1) := by decide +kernel
theorem dX8_assemble_58 : decode cX8_assemble 58 = .ok (.iadd, 1) := by decide +kernel
theorem dX8_assemble_59 : decode cX8_assemble 59 = .ok (.goto 4, 3) := by decide +kernel
theorem dX8_assemble_62 : decode cX8_assemble 62 = .ok (.iconst 1, 1) := by decide +kernel
theorem dX8_assemble_63 : decode cX8_assemble 63 = .ok (.istore 7, 2) := by decide +kernel
theorem dX8_assemble_65 : decode cX8_assemble 65 = .ok (.aload_n 0, 1) := by decide +kernel
theorem dX8_assemble_66 : decode cX8_assemble 66 = .ok (.getfield 15, 3) := by decide +kernel
theorem dX8_assemble_69 : decode cX8_assemble 69 = .ok (.iload 11, 2) := by decide +kernel
theorem dX8_assemble_71 : decode cX8_assemble 71 = .ok (.iaload, 1) := by decide +kernel
theorem dX8_assemble_72 : decode cX8_assemble 72 = .ok (.istore 6, 2) := by decide +kernel
theorem dX8_assemble_74 : decode cX8_assemble 74 = .ok (.iload 5, 2) := by decide +kernel
theorem dX8_assemble_76 : decode cX8_assemble 76 = .ok (.iload 7, 2) := by decide +kernel
theorem dX8_assemble_78 : decode cX8_assemble 78 = .ok (.aload_n 0, 1) := by decide +kernel
theorem dX8_assemble_79 : decode cX8_assemble 79 = .ok (.getfield 24, 3) := by decide +kernel
theorem dX8_assemble_82 : decode cX8_assemble 82 = .ok (.iload 11, 2) := by decide +kernel
theorem dX8_assemble_84 : decode cX8_assemble 84 = .ok (.iaload, 1) := by decide +kernel
theorem dX8_assemble_85 : decode cX8_assemble 85 = .ok (.imul, 1) := by decide +kernel
theorem dX8_assemble_86 : decode cX8_assemble 86 = .ok (.imul, 1) := by decide +kernel
theorem dX8_assemble_87 : decode cX8_assemble 87 = .ok (.istore 5, 2) := by decide +kernel
theorem dX8_assemble_89 : decode cX8_assemble 89 = .ok (.iload_n 3, 1) := by decide +kernel
theorem dX8_assemble_90 : decode cX8_assemble 90 = .ok (.aload_n 0, 1) := by decide +kernel
theorem dX8_assemble_91 : decode cX8_assemble 91 = .ok (.getfield 15, 3) := by decide +kernel
theorem dX8_assemble_94 : decode cX8_assemble 94 = .ok (.iload 11, 2) := by decide +kernel
theorem dX8_assemble_96 : decode cX8_assemble 96 = .ok (.iaload, 1) := by decide +kernel
theorem dX8_assemble_97 : decode cX8_assemble 97 = .ok (.iload 4, 2) := by decide +kernel
theorem dX8_assemble_99 : decode cX8_assemble 99 = .ok (.ishr, 1) := by decide +kernel
theorem dX8_assemble_100 : decode cX8_assemble 100 = .ok (.ior, 1) := by decide +kernel
theorem dX8_assemble_101 : decode cX8_assemble 101 = .ok (.istore_n 3, 1) := by decide +kernel
theorem dX8_assemble_102 : decode cX8_assemble 102 = .ok (.iload 4, 2) := by decide +kernel
theorem dX8_assemble_104 : decode cX8_assemble 104 = .ok (.aload_n 0, 1) := by decide +kernel
theorem dX8_assemble_105 : decode cX8_assemble 105 = .ok (.getfield 18, 3) := by decide +kernel
theorem dX8_assemble_108 : decode cX8_assemble 108 = .ok (.iload 11, 2) := by decide +kernel
theorem dX8_assemble_110 : decode cX8_assemble 110 = .ok (.iaload, 1) := by decide +kernel
theorem dX8_assemble_111 : decode cX8_assemble 111 = .ok (.iadd, 1) := by decide +kernel
theorem dX8_assemble_112 : decode cX8_assemble 112 = .ok (.istore 4, 2) := by decide +kernel
theorem dX8_assemble_114 : decode cX8_assemble 114 = .ok (.iload 8, 2) := by decide +kernel
theorem dX8_assemble_116 : decode cX8_assemble 116 = .ok (.aload_n 0, 1) := by decide +kernel
theorem dX8_assemble_117 : decode cX8_assemble 117 = .ok (.getfield 18, 3) := by decide +kernel
theorem dX8_assemble_120 : decode cX8_assemble 120 = .ok (.iload 11, 2) := by decide +kernel
theorem dX8_assemble_122 : decode cX8_assemble 122 = .ok (.iaload, 1) := by decide +kernel
theorem dX8_assemble_123 : decode cX8_assemble 123 = .ok (.invokestatic 66, 3) := by decide +kernel
theorem dX8_assemble_126 : decode cX8_assemble 126 = .ok (.istore 8, 2) := by decide +kernel
theorem dX8_assemble_128 : decode cX8_assemble 128 = .ok (.iload 9, 2) := by decide +kernel
theorem dX8_assemble_130 : decode cX8_assemble 130 = .ok (.iload 11, 2) := by decide +kernel
theorem dX8_assemble_132 : decode cX8_assemble 132 = .ok (.invokestatic 72, 3) := by decide +kernel
theorem dX8_assemble_135 : decode cX8_assemble 135 = .ok (.istore 9, 2) := by decide +kernel
theorem dX8_assemble_137 : decode cX8_assemble 137 = .ok (.iinc 10 1, 3) := by decide +kernel
theorem dX8_assemble_140 : decode cX8_assemble 140 = .ok (.goto (-117), 3) := by decide +kernel
theorem dX8_assemble_143 : decode cX8_assemble 143 = .ok (.aload_n 0, 1) := by decide +kernel
theorem dX8_assemble_144 : decode cX8_assemble 144 = .ok (.getfield 15, 3) := by decide +kernel
theorem dX8_assemble_147 : decode cX8_assemble 147 = .ok (.iload_n 1, 1) := by decide +kernel
theorem dX8_assemble_148 : decode cX8_assemble 148 = .ok (.iload_n 3, 1) := by decide +kernel
theorem dX8_assemble_149 : decode cX8_assemble 149 = .ok (.iconst 1, 1) := by decide +kernel
theorem dX8_assemble_150 : decode cX8_assemble 150 = .ok (.bipush 19, 2) := by decide +kernel
theorem dX8_assemble_152 : decode cX8_assemble 152 = .ok (.iload 4, 2) := by decide +kernel
theorem dX8_assemble_154 : decode cX8_assemble 154 = .ok (.isub, 1) := by decide +kernel
theorem dX8_assemble_155 : decode cX8_assemble 155 = .ok (.ishl, 1) := by decide +kernel
theorem dX8_assemble_156 : decode cX8_assemble 156 = .ok (.ior, 1) := by decide +kernel
theorem dX8_assemble_157 : decode cX8_assemble 157 = .ok (.iastore, 1) := by decide +kernel
theorem dX8_assemble_158 : decode cX8_assemble 158 = .ok (.aload_n 0, 1) := by decide +kernel
theorem dX8_assemble_159 : decode cX8_assemble 159 = .ok (.getfield 18, 3) := by decide +kernel
theorem dX8_assemble_162 : decode cX8_assemble 162 = .ok (.iload_n 1, 1) := by decide +kernel
theorem dX8_assemble_163 : decode cX8_assemble 163 = .ok (.iload 4, 2) := by decide +kernel
theorem dX8_assemble_165 : decode cX8_assemble 165 = .ok (.iconst 1, 1) := by decide +kernel
theorem dX8_assemble_166 : decode cX8_assemble 166 = .ok (.iadd, 1) := by decide +kernel
theorem dX8_assemble_167 : decode cX8_assemble 167 = .ok (.iastore, 1) := by decide +kernel
theorem dX8_assemble_168 : decode cX8_assemble 168 = .ok (.aload_n 0, 1) := by decide +kernel
theorem dX8_assemble_169 : decode cX8_assemble 169 = .ok (.getfield 21, 3) := by decide +kernel
theorem dX8_assemble_172 : decode cX8_assemble 172 = .ok (.iload_n 1, 1) := by decide +kernel
theorem dX8_assemble_173 : decode cX8_assemble 173 = .ok (.iload 8, 2) := by decide +kernel
theorem dX8_assemble_175 : decode cX8_assemble 175 = .ok (.iastore, 1) := by decide +kernel
theorem dX8_assemble_176 : decode cX8_assemble 176 = .ok (.aload_n 0, 1) := by decide +kernel
theorem dX8_assemble_177 : decode cX8_assemble 177 = .ok (.getfield 24, 3) := by decide +kernel
theorem dX8_assemble_180 : decode cX8_assemble 180 = .ok (.iload_n 1, 1) := by decide +kernel
theorem dX8_assemble_181 : decode cX8_assemble 181 = .ok (.iload 5, 2) := by decide +kernel
theorem dX8_assemble_183 : decode cX8_assemble 183 = .ok (.iastore, 1) := by decide +kernel
theorem dX8_assemble_184 : decode cX8_assemble 184 = .ok (.return_, 1) := by decide +kernel
theorem dX8_leastWord_0 : decode cX8_leastWord 0 = .ok (.iconst 0, 1) := by decide +kernel
theorem dX8_leastWord_1 : decode cX8_leastWord 1 = .ok (.istore_n 2, 1) := by decide +kernel
theorem dX8_leastWord_2 : decode cX8_leastWord 2 = .ok (.iconst 0, 1) := by decide +kernel
theorem dX8_leastWord_3 : decode cX8_leastWord 3 = .ok (.istore_n 3, 1) := by decide +kernel
theorem dX8_leastWord_4 : decode cX8_leastWord 4 = .ok (.iconst 0, 1) := by decide +kernel
theorem dX8_leastWord_5 : decode cX8_leastWord 5 = .ok (.istore 4, 2) := by decide +kernel
theorem dX8_leastWord_7 : decode cX8_leastWord 7 = .ok (.iload 4, 2) := by decide +kernel
theorem dX8_leastWord_9 : decode cX8_leastWord 9 = .ok (.bipush 10, 2) := by decide +kernel
theorem dX8_leastWord_11 : decode cX8_leastWord 11 = .ok (.if_icmp .ge 43, 3) := by decide +kernel
theorem dX8_leastWord_14 : decode cX8_leastWord 14 = .ok (.iload_n 1, 1) := by decide +kernel
theorem dX8_leastWord_15 : decode cX8_leastWord 15 = .ok (.iload 4, 2) := by decide +kernel
theorem dX8_leastWord_17 : decode cX8_leastWord 17 = .ok (.invokestatic 34, 3) := by decide +kernel
theorem dX8_leastWord_20 : decode cX8_leastWord 20 = .ok (.ifCond .eq 28, 3) := by decide +kernel
theorem dX8_leastWord_23 : decode cX8_leastWord 23 = .ok (.iload_n 3, 1) := by decide +kernel
theorem dX8_leastWord_24 : decode cX8_leastWord 24 = .ok (.ifCond .eq 19, 3) := by decide +kernel
theorem dX8_leastWord_27 : decode cX8_leastWord 27 = .ok (.aload_n 0, 1) := by decide +kernel
theorem dX8_leastWord_28 : decode cX8_leastWord 28 = .ok (.getfield 15, 3) := by decide +kernel
theorem dX8_leastWord_31 : decode cX8_leastWord 31 = .ok (.iload 4, 2) := by decide +kernel
theorem dX8_leastWord_33 : decode cX8_leastWord 33 = .ok (.iaload, 1) := by decide +kernel
theorem dX8_leastWord_34 : decode cX8_leastWord 34 = .ok (.aload_n 0, 1) := by decide +kernel
theorem dX8_leastWord_35 : decode cX8_leastWord 35 = .ok (.getfield 15, 3) := by decide +kernel
theorem dX8_leastWord_38 : decode cX8_leastWord 38 = .ok (.iload_n 2, 1) := by decide +kernel
theorem dX8_leastWord_39 : decode cX8_leastWord 39 = .ok (.iaload, 1) := by decide +kernel
theorem dX8_leastWord_40 : decode cX8_leastWord 40 = .ok (.if_icmp .ge 8, 3) := by decide +kernel
theorem dX8_leastWord_43 : decode cX8_leastWord 43 = .ok (.iload 4, 2) := by decide +kernel
theorem dX8_leastWord_45 : decode cX8_leastWord 45 = .ok (.istore_n 2, 1) := by decide +kernel
theorem dX8_leastWord_46 : decode cX8_leastWord 46 = .ok (.iconst 1, 1) := by decide +kernel
theorem dX8_leastWord_47 : decode cX8_leastWord 47 = .ok (.istore_n 3, 1) := by decide +kernel
theorem dX8_leastWord_48 : decode cX8_leastWord 48 = .ok (.iinc 4 1, 3) := by decide +kernel
theorem dX8_leastWord_51 : decode cX8_leastWord 51 = .ok (.goto (-44), 3) := by decide +kernel
theorem dX8_leastWord_54 : decode cX8_leastWord 54 = .ok (.iload_n 2, 1) := by decide +kernel
theorem dX8_leastWord_55 : decode cX8_leastWord 55 = .ok (.ireturn, 1) := by decide +kernel
theorem dX8_wordOf_0 : decode cX8_wordOf 0 = .ok (.aload_n 0, 1) := by decide +kernel
theorem dX8_wordOf_1 : decode cX8_wordOf 1 = .ok (.aload_n 1, 1) := by decide +kernel
theorem dX8_wordOf_2 : decode cX8_wordOf 2 = .ok (.iload_n 2, 1) := by decide +kernel
theorem dX8_wordOf_3 : decode cX8_wordOf 3 = .ok (.invokestatic 75, 3) := by decide +kernel
theorem dX8_wordOf_6 : decode cX8_wordOf 6 = .ok (.invokevirtual 78, 3) := by decide +kernel
theorem dX8_wordOf_9 : decode cX8_wordOf 9 = .ok (.pop, 1) := by decide +kernel
theorem dX8_wordOf_10 : decode cX8_wordOf 10 = .ok (.aload_n 0, 1) := by decide +kernel
theorem dX8_wordOf_11 : decode cX8_wordOf 11 = .ok (.aload_n 1, 1) := by decide +kernel
theorem dX8_wordOf_12 : decode cX8_wordOf 12 = .ok (.iload_n 2, 1) := by decide +kernel
theorem dX8_wordOf_13 : decode cX8_wordOf 13 = .ok (.invokevirtual 81, 3) := by decide +kernel
theorem dX8_wordOf_16 : decode cX8_wordOf 16 = .ok (.istore_n 3, 1) := by decide +kernel
theorem dX8_wordOf_17 : decode cX8_wordOf 17 = .ok (.iconst (-1), 1) := by decide +kernel
theorem dX8_wordOf_18 : decode cX8_wordOf 18 = .ok (.istore 4, 2) := by decide +kernel
theorem dX8_wordOf_20 : decode cX8_wordOf 20 = .ok (.iconst 0, 1) := by decide +kernel
theorem dX8_wordOf_21 : decode cX8_wordOf 21 = .ok (.istore 5, 2) := by decide +kernel
theorem dX8_wordOf_23 : decode cX8_wordOf 23 = .ok (.iload 5, 2) := by decide +kernel
theorem dX8_wordOf_25 : decode cX8_wordOf 25 = .ok (.aload_n 1, 1) := by decide +kernel
theorem dX8_wordOf_26 : decode cX8_wordOf 26 = .ok (.getfield 48, 3) := by decide +kernel
theorem dX8_wordOf_29 : decode cX8_wordOf 29 = .ok (.if_icmp .ge 47, 3) := by decide +kernel
theorem dX8_wordOf_32 : decode cX8_wordOf 32 = .ok (.iload_n 3, 1) := by decide +kernel
theorem dX8_wordOf_33 : decode cX8_wordOf 33 = .ok (.iload 5, 2) := by decide +kernel
theorem dX8_wordOf_35 : decode cX8_wordOf 35 = .ok (.invokestatic 34, 3) := by decide +kernel
theorem dX8_wordOf_38 : decode cX8_wordOf 38 = .ok (.ifCond .eq 32, 3) := by decide +kernel
theorem dX8_wordOf_41 : decode cX8_wordOf 41 = .ok (.aload_n 0, 1) := by decide +kernel
theorem dX8_wordOf_42 : decode cX8_wordOf 42 = .ok (.aload_n 1, 1) := by decide +kernel
theorem dX8_wordOf_43 : decode cX8_wordOf 43 = .ok (.iload 5, 2) := by decide +kernel
theorem dX8_wordOf_45 : decode cX8_wordOf 45 = .ok (.invokevirtual 78, 3) := by decide +kernel
theorem dX8_wordOf_48 : decode cX8_wordOf 48 = .ok (.istore 6, 2) := by decide +kernel
theorem dX8_wordOf_50 : decode cX8_wordOf 50 = .ok (.iload 4, 2) := by decide +kernel
theorem dX8_wordOf_52 : decode cX8_wordOf 52 = .ok (.iconst (-1), 1) := by decide +kernel
theorem dX8_wordOf_53 : decode cX8_wordOf 53 = .ok (.if_icmp .ne 8, 3) := by decide +kernel
theorem dX8_wordOf_56 : decode cX8_wordOf 56 = .ok (.iload 6, 2) := by decide +kernel
theorem dX8_wordOf_58 : decode cX8_wordOf 58 = .ok (.goto 10, 3) := by decide +kernel
theorem dX8_wordOf_61 : decode cX8_wordOf 61 = .ok (.iload 4, 2) := by decide +kernel
theorem dX8_wordOf_63 : decode cX8_wordOf 63 = .ok (.iload 6, 2) := by decide +kernel
theorem dX8_wordOf_65 : decode cX8_wordOf 65 = .ok (.invokestatic 84, 3) := by decide +kernel
theorem dX8_wordOf_68 : decode cX8_wordOf 68 = .ok (.istore 4, 2) := by decide +kernel
theorem dX8_wordOf_70 : decode cX8_wordOf 70 = .ok (.iinc 5 1, 3) := by decide +kernel
theorem dX8_wordOf_73 : decode cX8_wordOf 73 = .ok (.goto (-50), 3) := by decide +kernel
theorem dX8_wordOf_76 : decode cX8_wordOf 76 = .ok (.iload 4, 2) := by decide +kernel
theorem dX8_wordOf_78 : decode cX8_wordOf 78 = .ok (.ireturn, 1) := by decide +kernel
theorem dX8_centroidsSeen_0 : decode cX8_centroidsSeen 0 = .ok (.iconst 2, 1) := by decide +kernel
theorem dX8_centroidsSeen_1 : decode cX8_centroidsSeen 1 = .ok (.iload_n 2, 1) := by decide +kernel
theorem dX8_centroidsSeen_2 : decode cX8_centroidsSeen 2 = .ok (.invokestatic 87, 3) := by decide +kernel
theorem dX8_centroidsSeen_5 : decode cX8_centroidsSeen 5 = .ok (.imul, 1) := by decide +kernel
theorem dX8_centroidsSeen_6 : decode cX8_centroidsSeen 6 = .ok (.istore_n 3, 1) := by decide +kernel
theorem dX8_centroidsSeen_7 : decode cX8_centroidsSeen 7 = .ok (.iconst 0, 1) := by decide +kernel
theorem dX8_centroidsSeen_8 : decode cX8_centroidsSeen 8 = .ok (.istore 4, 2) := by decide +kernel
theorem dX8_centroidsSeen_10 : decode cX8_centroidsSeen 10 = .ok (.iconst 0, 1) := by decide +kernel
theorem dX8_centroidsSeen_11 : decode cX8_centroidsSeen 11 = .ok (.istore 5, 2) := by decide +kernel
theorem dX8_centroidsSeen_13 : decode cX8_centroidsSeen 13 = .ok (.iload 5, 2) := by decide +kernel
theorem dX8_centroidsSeen_15 : decode cX8_centroidsSeen 15 = .ok (.aload_n 1, 1) := by decide +kernel
theorem dX8_centroidsSeen_16 : decode cX8_centroidsSeen 16 = .ok (.getfield 48, 3) := by decide +kernel
theorem dX8_centroidsSeen_19 : decode cX8_centroidsSeen 19 = .ok (.if_icmp .ge 52, 3) := by decide +kernel
theorem dX8_centroidsSeen_22 : decode cX8_centroidsSeen 22 = .ok (.iload_n 2, 1) := by decide +kernel
theorem dX8_centroidsSeen_23 : decode cX8_centroidsSeen 23 = .ok (.iload 5, 2) := by decide +kernel
theorem dX8_centroidsSeen_25 : decode cX8_centroidsSeen 25 = .ok (.invokestatic 34, 3) := by decide +kernel
theorem dX8_centroidsSeen_28 : decode cX8_centroidsSeen 28 = .ok (.ifCond .eq 37, 3) := by decide +kernel
theorem dX8_centroidsSeen_31 : decode cX8_centroidsSeen 31 = .ok (.iconst 2, 1) := by decide +kernel
theorem dX8_centroidsSeen_32 : decode cX8_centroidsSeen 32 = .ok (.aload_n 0, 1) := by decide +kernel
theorem dX8_centroidsSeen_33 : decode cX8_centroidsSeen 33 = .ok (.getfield 21, 3) := by decide +kernel
theorem dX8_centroidsSeen_36 : decode cX8_centroidsSeen 36 = .ok (.iload 5, 2) := by decide +kernel
theorem dX8_centroidsSeen_38 : decode cX8_centroidsSeen 38 = .ok (.iaload, 1) := by decide +kernel
theorem dX8_centroidsSeen_39 : decode cX8_centroidsSeen 39 = .ok (.iload_n 3, 1) := by decide +kernel
theorem dX8_centroidsSeen_40 : decode cX8_centroidsSeen 40 = .ok (.aload_n 0, 1) := by decide +kernel
theorem dX8_centroidsSeen_41 : decode cX8_centroidsSeen 41 = .ok (.getfield 18, 3) := by decide +kernel
theorem dX8_centroidsSeen_44 : decode cX8_centroidsSeen 44 = .ok (.iload 5, 2) := by decide +kernel
theorem dX8_centroidsSeen_46 : decode cX8_centroidsSeen 46 = .ok (.iaload, 1) := by decide +kernel
theorem dX8_centroidsSeen_47 : decode cX8_centroidsSeen 47 = .ok (.isub, 1) := by decide +kernel
theorem dX8_centroidsSeen_48 : decode cX8_centroidsSeen 48 = .ok (.invokestatic 66, 3) := by decide +kernel
theorem dX8_centroidsSeen_51 : decode cX8_centroidsSeen 51 = .ok (.imul, 1) := by decide +kernel
theorem dX8_centroidsSeen_52 : decode cX8_centroidsSeen 52 = .ok (.iload_n 3, 1) := by decide +kernel
theorem dX8_centroidsSeen_53 : decode cX8_centroidsSeen 53 = .ok (.if_icmp .gt 12, 3) := by decide +kernel
theorem dX8_centroidsSeen_56 : decode cX8_centroidsSeen 56 = .ok (.iload 4, 2) := by decide +kernel
theorem dX8_centroidsSeen_58 : decode cX8_centroidsSeen 58 = .ok (.iconst 1, 1) := by decide +kernel
theorem dX8_centroidsSeen_59 : decode cX8_centroidsSeen 59 = .ok (.iload 5, 2) := by decide +kernel
theorem dX8_centroidsSeen_61 : decode cX8_centroidsSeen 61 = .ok (.ishl, 1) := by decide +kernel
theorem dX8_centroidsSeen_62 : decode cX8_centroidsSeen 62 = .ok (.ior, 1) := by decide +kernel
theorem dX8_centroidsSeen_63 : decode cX8_centroidsSeen 63 = .ok (.istore 4, 2) := by decide +kernel
theorem dX8_centroidsSeen_65 : decode cX8_centroidsSeen 65 = .ok (.iinc 5 1, 3) := by decide +kernel
theorem dX8_centroidsSeen_68 : decode cX8_centroidsSeen 68 = .ok (.goto (-55), 3) := by decide +kernel
theorem dX8_centroidsSeen_71 : decode cX8_centroidsSeen 71 = .ok (.iload 4, 2) := by decide +kernel
theorem dX8_centroidsSeen_73 : decode cX8_centroidsSeen 73 = .ok (.ireturn, 1) := by decide +kernel
theorem dX8_orbitOf_0 : decode cX8_orbitOf 0 = .ok (.aload_n 1, 1) := by decide +kernel
theorem dX8_orbitOf_1 : decode cX8_orbitOf 1 = .ok (.iload_n 2, 1) := by decide +kernel
theorem dX8_orbitOf_2 : decode cX8_orbitOf 2 = .ok (.invokevirtual 92, 3) := by decide +kernel
theorem dX8_orbitOf_5 : decode cX8_orbitOf 5 = .ok (.istore_n 3, 1) := by decide +kernel
theorem dX8_orbitOf_6 : decode cX8_orbitOf 6 = .ok (.aload_n 0, 1) := by decide +kernel
theorem dX8_orbitOf_7 : decode cX8_orbitOf 7 = .ok (.aload_n 1, 1) := by decide +kernel
theorem dX8_orbitOf_8 : decode cX8_orbitOf 8 = .ok (.iload_n 2, 1) := by decide +kernel
theorem dX8_orbitOf_9 : decode cX8_orbitOf 9 = .ok (.invokevirtual 78, 3) := by decide +kernel
theorem dX8_orbitOf_12 : decode cX8_orbitOf 12 = .ok (.istore 4, 2) := by decide +kernel
theorem dX8_orbitOf_14 : decode cX8_orbitOf 14 = .ok (.iconst 0, 1) := by decide +kernel
theorem dX8_orbitOf_15 : decode cX8_orbitOf 15 = .ok (.istore 5, 2) := by decide +kernel
theorem dX8_orbitOf_17 : decode cX8_orbitOf 17 = .ok (.iconst 0, 1) := by decide +kernel
theorem dX8_orbitOf_18 : decode cX8_orbitOf 18 = .ok (.istore 6, 2) := by decide +kernel
theorem dX8_orbitOf_20 : decode cX8_orbitOf 20 = .ok (.iload 6, 2) := by decide +kernel
theorem dX8_orbitOf_22 : decode cX8_orbitOf 22 = .ok (.aload_n 1, 1) := by decide +kernel
theorem dX8_orbitOf_23 : decode cX8_orbitOf 23 = .ok (.getfield 48, 3) := by decide +kernel
theorem dX8_orbitOf_26 : decode cX8_orbitOf 26 = .ok (.if_icmp .ge 39, 3) := by decide +kernel
theorem dX8_orbitOf_29 : decode cX8_orbitOf 29 = .ok (.iload_n 3, 1) := by decide +kernel
theorem dX8_orbitOf_30 : decode cX8_orbitOf 30 = .ok (.iload 6, 2) := by decide +kernel
theorem dX8_orbitOf_32 : decode cX8_orbitOf 32 = .ok (.invokestatic 34, 3) := by decide +kernel
theorem dX8_orbitOf_35 : decode cX8_orbitOf 35 = .ok (.ifCond .eq 24, 3) := by decide +kernel
theorem dX8_orbitOf_38 : decode cX8_orbitOf 38 = .ok (.aload_n 0, 1) := by decide +kernel
theorem dX8_orbitOf_39 : decode cX8_orbitOf 39 = .ok (.aload_n 1, 1) := by decide +kernel
theorem dX8_orbitOf_40 : decode cX8_orbitOf 40 = .ok (.iload 6, 2) := by decide +kernel
theorem dX8_orbitOf_42 : decode cX8_orbitOf 42 = .ok (.invokevirtual 78, 3) := by decide +kernel
theorem dX8_orbitOf_45 : decode cX8_orbitOf 45 = .ok (.iload 4, 2) := by decide +kernel
theorem dX8_orbitOf_47 : decode cX8_orbitOf 47 = .ok (.if_icmp .ne 12, 3) := by decide +kernel
theorem dX8_orbitOf_50 : decode cX8_orbitOf 50 = .ok (.iload 5, 2) := by decide +kernel
theorem dX8_orbitOf_52 : decode cX8_orbitOf 52 = .ok (.iconst 1, 1) := by decide +kernel
theorem dX8_orbitOf_53 : decode cX8_orbitOf 53 = .ok (.iload 6, 2) := by decide +kernel
theorem dX8_orbitOf_55 : decode cX8_orbitOf 55 = .ok (.ishl, 1) := by decide +kernel
theorem dX8_orbitOf_56 : decode cX8_orbitOf 56 = .ok (.ior, 1) := by decide +kernel
theorem dX8_orbitOf_57 : decode cX8_orbitOf 57 = .ok (.istore 5, 2) := by decide +kernel
theorem dX8_orbitOf_59 : decode cX8_orbitOf 59 = .ok (.iinc 6 1, 3) := by decide +kernel
theorem dX8_orbitOf_62 : decode cX8_orbitOf 62 = .ok (.goto (-42), 3) := by decide +kernel
theorem dX8_orbitOf_65 : decode cX8_orbitOf 65 = .ok (.iload 5, 2) := by decide +kernel
theorem dX8_orbitOf_67 : decode cX8_orbitOf 67 = .ok (.ireturn, 1) := by decide +kernel
theorem dX8_symmetriesOf_0 : decode cX8_symmetriesOf 0 = .ok (.iload_n 2, 1) := by decide +kernel
theorem dX8_symmetriesOf_1 : decode cX8_symmetriesOf 1 = .ok (.invokestatic 75, 3) := by decide +kernel
theorem dX8_symmetriesOf_4 : decode cX8_symmetriesOf 4 = .ok (.istore_n 3, 1) := by decide +kernel
theorem dX8_symmetriesOf_5 : decode cX8_symmetriesOf 5 = .ok (.iload_n 3, 1) := by decide +kernel
theorem dX8_symmetriesOf_6 : decode cX8_symmetriesOf 6 = .ok (.iconst (-1), 1) := by decide +kernel
theorem dX8_symmetriesOf_7 : decode cX8_symmetriesOf 7 = .ok (.if_icmp .ne 5, 3) := by decide +kernel
theorem dX8_symmetriesOf_10 : decode cX8_symmetriesOf 10 = .ok (.iconst 0, 1) := by decide +kernel
theorem dX8_symmetriesOf_11 : decode cX8_symmetriesOf 11 = .ok (.ireturn, 1) := by decide +kernel
theorem dX8_symmetriesOf_12 : decode cX8_symmetriesOf 12 = .ok (.aload_n 0, 1) := by decide +kernel
theorem dX8_symmetriesOf_13 : decode cX8_symmetriesOf 13 = .ok (.aload_n 1, 1) := by decide +kernel
theorem dX8_symmetriesOf_14 : decode cX8_symmetriesOf 14 = .ok (.iload_n 3, 1) := by decide +kernel
theorem dX8_symmetriesOf_15 : decode cX8_symmetriesOf 15 = .ok (.invokevirtual 95, 3) := by decide +kernel
theorem dX8_symmetriesOf_18 : decode cX8_symmetriesOf 18 = .ok (.invokestatic 87, 3) := by decide +kernel
theorem dX8_symmetriesOf_21 : decode cX8_symmetriesOf 21 = .ok (.istore 4, 2) := by decide +kernel
theorem dX8_symmetriesOf_23 : decode cX8_symmetriesOf 23 = .ok (.aload_n 0, 1) := by decide +kernel
theorem dX8_symmetriesOf_24 : decode cX8_symmetriesOf 24 = .ok (.aload_n 1, 1) := by decide +kernel
theorem dX8_symmetriesOf_25 : decode cX8_symmetriesOf 25 = .ok (.iload_n 3, 1) := by decide +kernel
theorem dX8_symmetriesOf_26 : decode cX8_symmetriesOf 26 = .ok (.invokevirtual 78, 3) := by decide +kernel
theorem dX8_symmetriesOf_29 : decode cX8_symmetriesOf 29 = .ok (.pop, 1) := by decide +kernel
theorem dX8_symmetriesOf_30 : decode cX8_symmetriesOf 30 = .ok (.iload 4, 2) := by decide +kernel
theorem dX8_symmetriesOf_32 : decode cX8_symmetriesOf 32 = .ok (.aload_n 0, 1) := by decide +kernel
theorem dX8_symmetriesOf_33 : decode cX8_symmetriesOf 33 = .ok (.getfield 24, 3) := by decide +kernel
theorem dX8_symmetriesOf_36 : decode cX8_symmetriesOf 36 = .ok (.iload_n 3, 1) := by decide +kernel
theorem dX8_symmetriesOf_37 : decode cX8_symmetriesOf 37 = .ok (.iaload, 1) := by decide +kernel
theorem dX8_symmetriesOf_38 : decode cX8_symmetriesOf 38 = .ok (.imul, 1) := by decide +kernel
theorem dX8_symmetriesOf_39 : decode cX8_symmetriesOf 39 = .ok (.ireturn, 1) := by decide +kernel
theorem dX8_classOf_0 : decode cX8_classOf 0 = .ok (.aload_n 0, 1) := by decide +kernel
theorem dX8_classOf_1 : decode cX8_classOf 1 = .ok (.getfield 30, 3) := by decide +kernel
theorem dX8_classOf_4 : decode cX8_classOf 4 = .ok (.invokevirtual 98, 3) := by decide +kernel
theorem dX8_classOf_7 : decode cX8_classOf 7 = .ok (.iconst (-1), 1) := by decide +kernel
theorem dX8_classOf_8 : decode cX8_classOf 8 = .ok (.istore_n 3, 1) := by decide +kernel
theorem dX8_classOf_9 : decode cX8_classOf 9 = .ok (.iconst 0, 1) := by decide +kernel
theorem dX8_classOf_10 : decode cX8_classOf 10 = .ok (.istore 4, 2) := by decide +kernel
theorem dX8_classOf_12 : decode cX8_classOf 12 = .ok (.iload 4, 2) := by decide +kernel
theorem dX8_classOf_14 : decode cX8_classOf 14 = .ok (.iload_n 2, 1) := by decide +kernel
theorem dX8_classOf_15 : decode cX8_classOf 15 = .ok (.if_icmp .gt 35, 3) := by decide +kernel
theorem dX8_classOf_18 : decode cX8_classOf 18 = .ok (.iload 4, 2) := by decide +kernel
theorem dX8_classOf_20 : decode cX8_classOf 20 = .ok (.bipush 10, 2) := by decide +kernel
theorem dX8_classOf_22 : decode cX8_classOf 22 = .ok (.if_icmp .ge 28, 3) := by decide +kernel
theorem dX8_classOf_25 : decode cX8_classOf 25 = .ok (.aload_n 0, 1) := by decide +kernel
theorem dX8_classOf_26 : decode cX8_classOf 26 = .ok (.getfield 30, 3) := by decide +kernel
theorem dX8_classOf_29 : decode cX8_classOf 29 = .ok (.aload_n 0, 1) := by decide +kernel
theorem dX8_classOf_30 : decode cX8_classOf 30 = .ok (.aload_n 1, 1) := by decide +kernel
theorem dX8_classOf_31 : decode cX8_classOf 31 = .ok (.aload_n 1, 1) := by decide +kernel
theorem dX8_classOf_32 : decode cX8_classOf 32 = .ok (.iload 4, 2) := by decide +kernel
theorem dX8_classOf_34 : decode cX8_classOf 34 = .ok (.invokevirtual 101, 3) := by decide +kernel
theorem dX8_classOf_37 : decode cX8_classOf 37 = .ok (.invokevirtual 104, 3) := by decide +kernel
theorem dX8_classOf_40 : decode cX8_classOf 40 = .ok (.invokevirtual 107, 3) := by decide +kernel
theorem dX8_classOf_43 : decode cX8_classOf 43 = .ok (.istore_n 3, 1) := by decide +kernel
theorem dX8_classOf_44 : decode cX8_classOf 44 = .ok (.iinc 4 1, 3) := by decide +kernel
theorem dX8_classOf_47 : decode cX8_classOf 47 = .ok (.goto (-35), 3) := by decide +kernel
theorem dX8_classOf_50 : decode cX8_classOf 50 = .ok (.iload_n 3, 1) := by decide +kernel
theorem dX8_classOf_51 : decode cX8_classOf 51 = .ok (.ireturn, 1) := by decide +kernel
theorem dX9_init_0 : decode cX9_init 0 = .ok (.aload_n 0, 1) := by decide +kernel
theorem dX9_init_1 : decode cX9_init 1 = .ok (.invokespecial 3, 3) := by decide +kernel
theorem dX9_init_4 : decode cX9_init 4 = .ok (.aload_n 0, 1) := by decide +kernel
theorem dX9_init_5 : decode cX9_init 5 = .ok (.new 9, 3) := by decide +kernel
theorem dX9_init_8 : decode cX9_init 8 = .ok (.dup, 1) := by decide +kernel
theorem dX9_init_9 : decode cX9_init 9 = .ok (.invokespecial 11, 3) := by decide +kernel
theorem dX9_init_12 : decode cX9_init 12 = .ok (.putfield 12, 3) := by decide +kernel
theorem dX9_init_15 : decode cX9_init 15 = .ok (.aload_n 0, 1) := by decide +kernel
theorem dX9_init_16 : decode cX9_init 16 = .ok (.new 16, 3) := by decide +kernel
theorem dX9_init_19 : decode cX9_init 19 = .ok (.dup, 1) := by decide +kernel
theorem dX9_init_20 : decode cX9_init 20 = .ok (.invokespecial 18, 3) := by decide +kernel
theorem dX9_init_23 : decode cX9_init 23 = .ok (.putfield 19, 3) := by decide +kernel
theorem dX9_init_26 : decode cX9_init 26 = .ok (.aload_n 0, 1) := by decide +kernel
theorem dX9_init_27 : decode cX9_init 27 = .ok (.new 23, 3) := by decide +kernel
theorem dX9_init_30 : decode cX9_init 30 = .ok (.dup, 1) := by decide +kernel
theorem dX9_init_31 : decode cX9_init 31 = .ok (.invokespecial 25, 3) := by decide +kernel
theorem dX9_init_34 : decode cX9_init 34 = .ok (.putfield 26, 3) := by decide +kernel
theorem dX9_init_37 : decode cX9_init 37 = .ok (.aload_n 0, 1) := by decide +kernel
theorem dX9_init_38 : decode cX9_init 38 = .ok (.new 23, 3) := by decide +kernel
theorem dX9_init_41 : decode cX9_init 41 = .ok (.dup, 1) := by decide +kernel
theorem dX9_init_42 : decode cX9_init 42 = .ok (.invokespecial 25, 3) := by decide +kernel
theorem dX9_init_45 : decode cX9_init 45 = .ok (.putfield 30, 3) := by decide +kernel
theorem dX9_init_48 : decode cX9_init 48 = .ok (.aload_n 0, 1) := by decide +kernel
theorem dX9_init_49 : decode cX9_init 49 = .ok (.new 33, 3) := by decide +kernel
theorem dX9_init_52 : decode cX9_init 52 = .ok (.dup, 1) := by decide +kernel
theorem dX9_init_53 : decode cX9_init 53 = .ok (.invokespecial 35, 3) := by decide +kernel
theorem dX9_init_56 : decode cX9_init 56 = .ok (.putfield 36, 3) := by decide +kernel
theorem dX9_init_59 : decode cX9_init 59 = .ok (.aload_n 0, 1) := by decide +kernel
theorem dX9_init_60 : decode cX9_init 60 = .ok (.new 40, 3) := by decide +kernel
theorem dX9_init_63 : decode cX9_init 63 = .ok (.dup, 1) := by decide +kernel
theorem dX9_init_64 : decode cX9_init 64 = .ok (.invokespecial 42, 3) := by decide +kernel
theorem dX9_init_67 : decode cX9_init 67 = .ok (.putfield 43, 3) := by decide +kernel
theorem dX9_init_70 : decode cX9_init 70 = .ok (.aload_n 0, 1) := by decide +kernel
theorem dX9_init_71 : decode cX9_init 71 = .ok (.new 47, 3) := by decide +kernel
theorem dX9_init_74 : decode cX9_init 74 = .ok (.dup, 1) := by decide +kernel
theorem dX9_init_75 : decode cX9_init 75 = .ok (.invokespecial 49, 3) := by decide +kernel
theorem dX9_init_78 : decode cX9_init 78 = .ok (.putfield 50, 3) := by decide +kernel
theorem dX9_init_81 : decode cX9_init 81 = .ok (.aload_n 0, 1) := by decide +kernel
theorem dX9_init_82 : decode cX9_init 82 = .ok (.new 54, 3) := by decide +kernel
theorem dX9_init_85 : decode cX9_init 85 = .ok (.dup, 1) := by decide +kernel
theorem dX9_init_86 : decode cX9_init 86 = .ok (.invokespecial 56, 3) := by decide +kernel
theorem dX9_init_89 : decode cX9_init 89 = .ok (.putfield 57, 3) := by decide +kernel
theorem dX9_init_92 : decode cX9_init 92 = .ok (.aload_n 0, 1) := by decide +kernel
theorem dX9_init_93 : decode cX9_init 93 = .ok (.new 61, 3) := by decide +kernel
theorem dX9_init_96 : decode cX9_init 96 = .ok (.dup, 1) := by decide +kernel
theorem dX9_init_97 : decode cX9_init 97 = .ok (.invokespecial 63, 3) := by decide +kernel
theorem dX9_init_100 : decode cX9_init 100 = .ok (.putfield 64, 3) := by decide +kernel
theorem dX9_init_103 : decode cX9_init 103 = .ok (.aload_n 0, 1) := by decide +kernel
theorem dX9_init_104 : decode cX9_init 104 = .ok (.bipush 10, 2) := by decide +kernel
theorem dX9_init_106 : decode cX9_init 106 = .ok (.newarray .int, 2) := by decide +kernel
theorem dX9_init_108 : decode cX9_init 108 = .ok (.putfield 68, 3) := by decide +kernel
theorem dX9_init_111 : decode cX9_init 111 = .ok (.return_, 1) := by decide +kernel
theorem dX9_append_0 : decode cX9_append 0 = .ok (.aload_n 0, 1) := by decide +kernel
theorem dX9_append_1 : decode cX9_append 1 = .ok (.getfield 12, 3) := by decide +kernel
theorem dX9_append_4 : decode cX9_append 4 = .ok (.getfield 72, 3) := by decide +kernel
theorem dX9_append_7 : decode cX9_append 7 = .ok (.astore 6, 2) := by decide +kernel
theorem dX9_append_9 : decode cX9_append 9 = .ok (.aload 6, 2) := by decide +kernel
theorem dX9_append_11 : decode cX9_append 11 = .ok (.getfield 75, 3) := by decide +kernel
theorem dX9_append_14 : decode cX9_append 14 = .ok (.bipush 20, 2) := by decide +kernel
theorem dX9_append_16 : decode cX9_append 16 = .ok (.iadd, 1) := by decide +kernel
theorem dX9_append_17 : decode cX9_append 17 = .ok (.sipush 400, 3) := by decide +kernel
theorem dX9_append_20 : decode cX9_append 20 = .ok (.if_icmp .le 5, 3) := by decide +kernel
theorem dX9_append_23 : decode cX9_append 23 = .ok (.iconst (-1), 1) := by decide +kernel
theorem dX9_append_24 : decode cX9_append 24 = .ok (.ireturn, 1) := by decide +kernel
theorem dX9_append_25 : decode cX9_append 25 = .ok (.aload 6, 2) := by decide +kernel
theorem dX9_append_27 : decode cX9_append 27 = .ok (.iload_n 1, 1) := by decide +kernel
theorem dX9_append_28 : decode cX9_append 28 = .ok (.invokevirtual 79, 3) := by decide +kernel
theorem dX9_append_31 : decode cX9_append 31 = .ok (.aload 6, 2) := by decide +kernel
theorem dX9_append_33 : decode cX9_append 33 = .ok (.iload_n 2, 1) := by decide +kernel
theorem dX9_append_34 : decode cX9_append 34 = .ok (.invokevirtual 79, 3) := by decide +kernel
theorem dX9_append_37 : decode cX9_append 37 = .ok (.aload 6, 2) := by decide +kernel
theorem dX9_append_39 : decode cX9_append 39 = .ok (.iload_n 3, 1) := by decide +kernel
theorem dX9_append_40 : decode cX9_append 40 = .ok (.invokevirtual 79, 3) := by decide +kernel
theorem dX9_append_43 : decode cX9_append 43 = .ok (.aload 6, 2) := by decide +kernel
theorem dX9_append_45 : decode cX9_append 45 = .ok (.iload 4, 2) := by decide +kernel
theorem dX9_append_47 : decode cX9_append 47 = .ok (.invokevirtual 79, 3) := by decide +kernel
theorem dX9_append_50 : decode cX9_append 50 = .ok (.aload 6, 2) := by decide +kernel
theorem dX9_append_52 : decode cX9_append 52 = .ok (.iload 5, 2) := by decide +kernel
theorem dX9_append_54 : decode cX9_append 54 = .ok (.invokevirtual 79, 3) := by decide +kernel
theorem dX9_append_57 : decode cX9_append 57 = .ok (.aload 6, 2) := by decide +kernel
theorem dX9_append_59 : decode cX9_append 59 = .ok (.getfield 75, 3) := by decide +kernel
theorem dX9_append_62 : decode cX9_append 62 = .ok (.ireturn, 1) := by decide +kernel
theorem dX9_truncate_0 : decode cX9_truncate 0 = .ok (.aload_n 0, 1) := by decide +kernel
theorem dX9_truncate_1 : decode cX9_truncate 1 = .ok (.getfield 12, 3) := by decide +kernel
theorem dX9_truncate_4 : decode cX9_truncate 4 = .ok (.getfield 72, 3) := by decide +kernel
theorem dX9_truncate_7 : decode cX9_truncate 7 = .ok (.iload_n 1, 1) := by decide +kernel
theorem dX9_truncate_8 : decode cX9_truncate 8 = .ok (.invokevirtual 83, 3) := by decide +kernel
theorem dX9_truncate_11 : decode cX9_truncate 11 = .ok (.ireturn, 1) := by decide +kernel
theorem dX9_bufferLength_0 : decode cX9_bufferLength 0 = .ok (.aload_n 0, 1) := by decide +kernel
theorem dX9_bufferLength_1 : decode cX9_bufferLength 1 = .ok (.getfield 12, 3) := by decide +kernel
theorem dX9_bufferLength_4 : decode cX9_bufferLength 4 = .ok (.getfield 72, 3) := by decide +kernel
theorem dX9_bufferLength_7 : decode cX9_bufferLength 7 = .ok (.getfield 75, 3) := by decide +kernel
theorem dX9_bufferLength_10 : decode cX9_bufferLength 10 = .ok (.ireturn, 1) := by decide +kernel
theorem dX9_load_0 : decode cX9_load 0 = .ok (.aload_n 0, 1) := by decide +kernel
theorem dX9_load_1 : decode cX9_load 1 = .ok (.getfield 12, 3) := by decide +kernel
theorem dX9_load_4 : decode cX9_load 4 = .ok (.invokevirtual 87, 3) := by decide +kernel
theorem dX9_load_7 : decode cX9_load 7 = .ok (.istore_n 1, 1) := by decide +kernel
theorem dX9_load_8 : decode cX9_load 8 = .ok (.aload_n 0, 1) := by decide +kernel
theorem dX9_load_9 : decode cX9_load 9 = .ok (.getfield 12, 3) := by decide +kernel
theorem dX9_load_12 : decode cX9_load 12 = .ok (.getfield 72, 3) := by decide +kernel
theorem dX9_load_15 : decode cX9_load 15 = .ok (.iconst 0, 1) := by decide +kernel
theorem dX9_load_16 : decode cX9_load 16 = .ok (.invokevirtual 83, 3) := by decide +kernel
theorem dX9_load_19 : decode cX9_load 19 = .ok (.pop, 1) := by decide +kernel
theorem dX9_load_20 : decode cX9_load 20 = .ok (.iload_n 1, 1) := by decide +kernel
theorem dX9_load_21 : decode cX9_load 21 = .ok (.ifCond .eq 6, 3) := by decide +kernel
theorem dX9_load_24 : decode cX9_load 24 = .ok (.iload_n 1, 1) := by decide +kernel
theorem dX9_load_25 : decode cX9_load 25 = .ok (.ineg, 1) := by decide +kernel
theorem dX9_load_26 : decode cX9_load 26 = .ok (.ireturn, 1) := by decide +kernel
theorem dX9_load_27 : decode cX9_load 27 = .ok (.aload_n 0, 1) := by decide +kernel
theorem dX9_load_28 : decode cX9_load 28 = .ok (.getfield 26, 3) := by decide +kernel
theorem dX9_load_31 : decode cX9_load 31 = .ok (.aload_n 0, 1) := by decide +kernel
theorem dX9_load_32 : decode cX9_load 32 = .ok (.getfield 12, 3) := by decide +kernel
theorem dX9_load_35 : decode cX9_load 35 = .ok (.getfield 91, 3) := by decide +kernel
theorem dX9_load_38 : decode cX9_load 38 = .ok (.invokevirtual 94, 3) := by decide +kernel
theorem dX9_load_41 : decode cX9_load 41 = .ok (.aload_n 0, 1) := by decide +kernel
theorem dX9_load_42 : decode cX9_load 42 = .ok (.getfield 64, 3) := by decide +kernel
theorem dX9_load_45 : decode cX9_load 45 = .ok (.invokevirtual 98, 3) := by decide +kernel
theorem dX9_load_48 : decode cX9_load 48 = .ok (.aload_n 0, 1) := by decide +kernel
theorem dX9_load_49 : decode cX9_load 49 = .ok (.getfield 68, 3) := by decide +kernel
theorem dX9_load_52 : decode cX9_load 52 = .ok (.iconst 0, 1) := by decide +kernel
theorem dX9_load_53 : decode cX9_load 53 = .ok (.invokestatic 101, 3) := by decide +kernel
theorem dX9_load_56 : decode cX9_load 56 = .ok (.aload_n 0, 1) := by decide +kernel
theorem dX9_load_57 : decode cX9_load 57 = .ok (.getfield 26, 3) := by decide +kernel
theorem dX9_load_60 : decode cX9_load 60 = .ok (.invokevirtual 107, 3) := by decide +kernel
theorem dX9_load_63 : decode cX9_load 63 = .ok (.ireturn, 1) := by decide +kernel
theorem dX9_forest_0 : decode cX9_forest 0 = .ok (.iload_n 1, 1) := by decide +kernel
theorem dX9_forest_1 : decode cX9_forest 1 = .ok (.tableswitch 170 0 8 #[51, 59, 67, 75, 91, 107, 122, 154, 162], 51) := by decide +kernel
theorem dX9_forest_52 : decode cX9_forest 52 = .ok (.aload_n 0, 1) := by decide +kernel
theorem dX9_forest_53 : decode cX9_forest 53 = .ok (.getfield 26, 3) := by decide +kernel
theorem dX9_forest_56 : decode cX9_forest 56 = .ok (.getfield 110, 3) := by decide +kernel
theorem dX9_forest_59 : decode cX9_forest 59 = .ok (.ireturn, 1) := by decide +kernel
theorem dX9_forest_60 : decode cX9_forest 60 = .ok (.aload_n 0, 1) := by decide +kernel
theorem dX9_forest_61 : decode cX9_forest 61 = .ok (.getfield 26, 3) := by decide +kernel
theorem dX9_forest_64 : decode cX9_forest 64 = .ok (.invokevirtual 107, 3) := by decide +kernel
theorem dX9_forest_67 : decode cX9_forest 67 = .ok (.ireturn, 1) := by decide +kernel
theorem dX9_forest_68 : decode cX9_forest 68 = .ok (.aload_n 0, 1) := by decide +kernel
theorem dX9_forest_69 : decode cX9_forest 69 = .ok (.getfield 26, 3) := by decide +kernel
theorem dX9_forest_72 : decode cX9_forest 72 = .ok (.invokevirtual 113, 3) := by decide +kernel
theorem dX9_forest_75 : decode cX9_forest 75 = .ok (.ireturn, 1) := by decide +kernel
theorem dX9_forest_76 : decode cX9_forest 76 = .ok (.aload_n 0, 1) := by decide +kernel
theorem dX9_forest_77 : decode cX9_forest 77 = .ok (.getfield 26, 3) := by decide +kernel
theorem dX9_forest_80 : decode cX9_forest 80 = .ok (.aload_n 0, 1) := by decide +kernel
theorem dX9_forest_81 : decode cX9_forest 81 = .ok (.getfield 26, 3) := by decide +kernel
theorem dX9_forest_84 : decode cX9_forest 84 = .ok (.invokevirtual 116, 3) := by decide +kernel
theorem dX9_forest_87 : decode cX9_forest 87 = .ok (.iconst 1, 1) := by decide +kernel
theorem dX9_forest_88 : decode cX9_forest 88 = .ok (.invokevirtual 119, 3) := by decide +kernel
theorem dX9_forest_91 : decode cX9_forest 91 = .ok (.ireturn, 1) := by decide +kernel
theorem dX9_forest_92 : decode cX9_forest 92 = .ok (.aload_n 0, 1) := by decide +kernel
theorem dX9_forest_93 : decode cX9_forest 93 = .ok (.getfield 26, 3) := by decide +kernel
theorem dX9_forest_96 : decode cX9_forest 96 = .ok (.aload_n 0, 1) := by decide +kernel
theorem dX9_forest_97 : decode cX9_forest 97 = .ok (.getfield 26, 3) := by decide +kernel
theorem dX9_forest_100 : decode cX9_forest 100 = .ok (.invokevirtual 116, 3) := by decide +kernel
theorem dX9_forest_103 : decode cX9_forest 103 = .ok (.iconst 0, 1) := by decide +kernel
theorem dX9_forest_104 : decode cX9_forest 104 = .ok (.invokevirtual 119, 3) := by decide +kernel
theorem dX9_forest_107 : decode cX9_forest 107 = .ok (.ireturn, 1) := by decide +kernel
theorem dX9_forest_108 : decode cX9_forest 108 = .ok (.aload_n 0, 1) := by decide +kernel
theorem dX9_forest_109 : decode cX9_forest 109 = .ok (.getfield 26, 3) := by decide +kernel
theorem dX9_forest_112 : decode cX9_forest 112 = .ok (.aload_n 0, 1) := by decide +kernel
theorem dX9_forest_113 : decode cX9_forest 113 = .ok (.getfield 26, 3) := by decide +kernel
theorem dX9_forest_116 : decode cX9_forest 116 = .ok (.invokevirtual 116, 3) := by decide +kernel
theorem dX9_forest_119 : decode cX9_forest 119 = .ok (.invokevirtual 123, 3) := by decide +kernel
theorem dX9_forest_122 : decode cX9_forest 122 = .ok (.ireturn, 1) := by decide +kernel
theorem dX9_forest_123 : decode cX9_forest 123 = .ok (.aload_n 0, 1) := by decide +kernel
theorem dX9_forest_124 : decode cX9_forest 124 = .ok (.getfield 43, 3) := by decide +kernel
theorem dX9_forest_127 : decode cX9_forest 127 = .ok (.aload_n 0, 1) := by decide +kernel
theorem dX9_forest_128 : decode cX9_forest 128 = .ok (.getfield 26, 3) := by decide +kernel
theorem dX9_forest_131 : decode cX9_forest 131 = .ok (.aload_n 0, 1) := by decide +kernel
theorem dX9_forest_132 : decode cX9_forest 132 = .ok (.getfield 26, 3) := by decide +kernel
theorem dX9_forest_135 : decode cX9_forest 135 = .ok (.invokevirtual 113, 3) := by decide +kernel
theorem dX9_forest_138 : decode cX9_forest 138 = .ok (.iconst 1, 1) := by decide +kernel
theorem dX9_forest_139 : decode cX9_forest 139 = .ok (.isub, 1) := by decide +kernel
theorem dX9_forest_140 : decode cX9_forest 140 = .ok (.invokevirtual 127, 3) := by decide +kernel
theorem dX9_forest_143 : decode cX9_forest 143 = .ok (.pop, 1) := by decide +kernel
theorem dX9_forest_144 : decode cX9_forest 144 = .ok (.aload_n 0, 1) := by decide +kernel
theorem dX9_forest_145 : decode cX9_forest 145 = .ok (.getfield 43, 3) := by decide +kernel
theorem dX9_forest_148 : decode cX9_forest 148 = .ok (.getfield 131, 3) := by decide +kernel
theorem dX9_forest_151 : decode cX9_forest 151 = .ok (.getfield 135, 3) := by decide +kernel
theorem dX9_forest_154 : decode cX9_forest 154 = .ok (.ireturn, 1) := by decide +kernel
theorem dX9_forest_155 : decode cX9_forest 155 = .ok (.aload_n 0, 1) := by decide +kernel
theorem dX9_forest_156 : decode cX9_forest 156 = .ok (.getfield 64, 3) := by decide +kernel
theorem dX9_forest_159 : decode cX9_forest 159 = .ok (.getfield 140, 3) := by decide +kernel
theorem dX9_forest_162 : decode cX9_forest 162 = .ok (.ireturn, 1) := by decide +kernel
theorem dX9_forest_163 : decode cX9_forest 163 = .ok (.aload_n 0, 1) := by decide +kernel
theorem dX9_forest_164 : decode cX9_forest 164 = .ok (.getfield 64, 3) := by decide +kernel
theorem dX9_forest_167 : decode cX9_forest 167 = .ok (.getfield 143, 3) := by decide +kernel
theorem dX9_forest_170 : decode cX9_forest 170 = .ok (.ireturn, 1) := by decide +kernel
theorem dX9_forest_171 : decode cX9_forest 171 = .ok (.iconst (-1), 1) := by decide +kernel
theorem dX9_forest_172 : decode cX9_forest 172 = .ok (.ireturn, 1) := by decide +kernel
theorem dX9_vertex_0 : decode cX9_vertex 0 = .ok (.aload_n 0, 1) := by decide +kernel
theorem dX9_vertex_1 : decode cX9_vertex 1 = .ok (.iload_n 1, 1) := by decide +kernel
theorem dX9_vertex_2 : decode cX9_vertex 2 = .ok (.invokevirtual 146, 3) := by decide +kernel
theorem dX9_vertex_5 : decode cX9_vertex 5 = .ok (.iload_n 2, 1) := by decide +kernel
theorem dX9_vertex_6 : decode cX9_vertex 6 = .ok (.tableswitch 122 0 7 #[46, 55, 64, 73, 85, 94, 100, 109], 46) := by decide +kernel
theorem dX9_vertex_52 : decode cX9_vertex 52 = .ok (.aload_n 0, 1) := by decide +kernel
theorem dX9_vertex_53 : decode cX9_vertex 53 = .ok (.getfield 26, 3) := by decide +kernel
theorem dX9_vertex_56 : decode cX9_vertex 56 = .ok (.iload_n 1, 1) := by decide +kernel
theorem dX9_vertex_57 : decode cX9_vertex 57 = .ok (.invokevirtual 149, 3) := by decide +kernel
theorem dX9_vertex_60 : decode cX9_vertex 60 = .ok (.ireturn, 1) := by decide +kernel
theorem dX9_vertex_61 : decode cX9_vertex 61 = .ok (.aload_n 0, 1) := by decide +kernel
theorem dX9_vertex_62 : decode cX9_vertex 62 = .ok (.getfield 26, 3) := by decide +kernel
theorem dX9_vertex_65 : decode cX9_vertex 65 = .ok (.iload_n 1, 1) := by decide +kernel
theorem dX9_vertex_66 : decode cX9_vertex 66 = .ok (.invokevirtual 152, 3) := by decide +kernel
theorem dX9_vertex_69 : decode cX9_vertex 69 = .ok (.ireturn, 1) := by decide +kernel
theorem dX9_vertex_70 : decode cX9_vertex 70 = .ok (.aload_n 0, 1) := by decide +kernel
theorem dX9_vertex_71 : decode cX9_vertex 71 = .ok (.getfield 26, 3) := by decide +kernel
theorem dX9_vertex_74 : decode cX9_vertex 74 = .ok (.iload_n 1, 1) := by decide +kernel
theorem dX9_vertex_75 : decode cX9_vertex 75 = .ok (.invokevirtual 155, 3) := by decide +kernel
theorem dX9_vertex_78 : decode cX9_vertex 78 = .ok (.ireturn, 1) := by decide +kernel
theorem dX9_vertex_79 : decode cX9_vertex 79 = .ok (.aload_n 0, 1) := by decide +kernel
theorem dX9_vertex_80 : decode cX9_vertex 80 = .ok (.getfield 26, 3) := by decide +kernel
theorem dX9_vertex_83 : decode cX9_vertex 83 = .ok (.iload_n 1, 1) := by decide +kernel
theorem dX9_vertex_84 : decode cX9_vertex 84 = .ok (.invokevirtual 158, 3) := by decide +kernel
theorem dX9_vertex_87 : decode cX9_vertex 87 = .ok (.invokestatic 161, 3) := by decide +kernel
theorem dX9_vertex_90 : decode cX9_vertex 90 = .ok (.ireturn, 1) := by decide +kernel
theorem dX9_vertex_91 : decode cX9_vertex 91 = .ok (.aload_n 0, 1) := by decide +kernel
theorem dX9_vertex_92 : decode cX9_vertex 92 = .ok (.getfield 26, 3) := by decide +kernel
theorem dX9_vertex_95 : decode cX9_vertex 95 = .ok (.iload_n 1, 1) := by decide +kernel
theorem dX9_vertex_96 : decode cX9_vertex 96 = .ok (.invokevirtual 166, 3) := by decide +kernel
theorem dX9_vertex_99 : decode cX9_vertex 99 = .ok (.ireturn, 1) := by decide +kernel
theorem dX9_vertex_100 : decode cX9_vertex 100 = .ok (.aload_n 0, 1) := by decide +kernel
theorem dX9_vertex_101 : decode cX9_vertex 101 = .ok (.iload_n 1, 1) := by decide +kernel
theorem dX9_vertex_102 : decode cX9_vertex 102 = .ok (.invokevirtual 169, 3) := by decide +kernel
theorem dX9_vertex_105 : decode cX9_vertex 105 = .ok (.ireturn, 1) := by decide +kernel
theorem dX9_vertex_106 : decode cX9_vertex 106 = .ok (.aload_n 0, 1) := by decide +kernel
theorem dX9_vertex_107 : decode cX9_vertex 107 = .ok (.getfield 26, 3) := by decide +kernel
theorem dX9_vertex_110 : decode cX9_vertex 110 = .ok (.iload_n 1, 1) := by decide +kernel
theorem dX9_vertex_111 : decode cX9_vertex 111 = .ok (.invokevirtual 172, 3) := by decide +kernel
theorem dX9_vertex_114 : decode cX9_vertex 114 = .ok (.ireturn, 1) := by decide +kernel
theorem dX9_vertex_115 : decode cX9_vertex 115 = .ok (.aload_n 0, 1) := by decide +kernel
theorem dX9_vertex_116 : decode cX9_vertex 116 = .ok (.getfield 43, 3) := by decide +kernel
theorem dX9_vertex_119 : decode cX9_vertex 119 = .ok (.aload_n 0, 1) := by decide +kernel
theorem dX9_vertex_120 : decode cX9_vertex 120 = .ok (.getfield 26, 3) := by decide +kernel
theorem dX9_vertex_123 : decode cX9_vertex 123 = .ok (.iload_n 1, 1) := by decide +kernel
theorem dX9_vertex_124 : decode cX9_vertex 124 = .ok (.invokevirtual 175, 3) := by decide +kernel
theorem dX9_vertex_127 : decode cX9_vertex 127 = .ok (.ireturn, 1) := by decide +kernel
theorem dX9_vertex_128 : decode cX9_vertex 128 = .ok (.new 178, 3) := by decide +kernel
theorem dX9_vertex_131 : decode cX9_vertex 131 = .ok (.dup, 1) := by decide +kernel
theorem dX9_vertex_132 : decode cX9_vertex 132 = .ok (.ldc 180, 2) := by decide +kernel
theorem dX9_vertex_134 : decode cX9_vertex 134 = .ok (.invokespecial 182, 3) := by decide +kernel
theorem dX9_vertex_137 : decode cX9_vertex 137 = .ok (.athrow, 1) := by decide +kernel
theorem dX9_component_0 : decode cX9_component 0 = .ok (.aload_n 0, 1) := by decide +kernel
theorem dX9_component_1 : decode cX9_component 1 = .ok (.iload_n 1, 1) := by decide +kernel
theorem dX9_component_2 : decode cX9_component 2 = .ok (.invokevirtual 185, 3) := by decide +kernel
theorem dX9_component_5 : decode cX9_component 5 = .ok (.istore_n 3, 1) := by decide +kernel
theorem dX9_component_6 : decode cX9_component 6 = .ok (.iload_n 2, 1) := by decide +kernel
theorem dX9_component_7 : decode cX9_component 7 = .ok (.tableswitch 105 0 6 #[41, 43, 52, 62, 72, 82, 95], 41) := by decide +kernel
theorem dX9_component_48 : decode cX9_component 48 = .ok (.iload_n 3, 1) := by decide +kernel
theorem dX9_component_49 : decode cX9_component 49 = .ok (.ireturn, 1) := by decide +kernel
theorem dX9_component_50 : decode cX9_component 50 = .ok (.aload_n 0, 1) := by decide +kernel
theorem dX9_component_51 : decode cX9_component 51 = .ok (.getfield 26, 3) := by decide +kernel
theorem dX9_component_54 : decode cX9_component 54 = .ok (.iload_n 3, 1) := by decide +kernel
theorem dX9_component_55 : decode cX9_component 55 = .ok (.invokevirtual 188, 3) := by decide +kernel
theorem dX9_component_58 : decode cX9_component 58 = .ok (.ireturn, 1) := by decide +kernel
theorem dX9_component_59 : decode cX9_component 59 = .ok (.aload_n 0, 1) := by decide +kernel
theorem dX9_component_60 : decode cX9_component 60 = .ok (.getfield 26, 3) := by decide +kernel
theorem dX9_component_63 : decode cX9_component 63 = .ok (.iload_n 3, 1) := by decide +kernel
theorem dX9_component_64 : decode cX9_component 64 = .ok (.iconst 0, 1) := by decide +kernel
theorem dX9_component_65 : decode cX9_component 65 = .ok (.invokevirtual 191, 3) := by decide +kernel
theorem dX9_component_68 : decode cX9_component 68 = .ok (.ireturn, 1) := by decide +kernel
theorem dX9_component_69 : decode cX9_component 69 = .ok (.aload_n 0, 1) := by decide +kernel
theorem dX9_component_70 : decode cX9_component 70 = .ok (.getfield 26, 3) := by decide +kernel
theorem dX9_component_73 : decode cX9_component 73 = .ok (.iload_n 3, 1) := by decide +kernel
theorem dX9_component_74 : decode cX9_component 74 = .ok (.iconst 1, 1) := by decide +kernel
theorem dX9_component_75 : decode cX9_component 75 = .ok (.invokevirtual 191, 3) := by decide +kernel
theorem dX9_component_78 : decode cX9_component 78 = .ok (.ireturn, 1) := by decide +kernel
theorem dX9_component_79 : decode cX9_component 79 = .ok (.aload_n 0, 1) := by decide +kernel
theorem dX9_component_80 : decode cX9_component 80 = .ok (.getfield 26, 3) := by decide +kernel
theorem dX9_component_83 : decode cX9_component 83 = .ok (.iload_n 3, 1) := by decide +kernel
theorem dX9_component_84 : decode cX9_component 84 = .ok (.iconst 2, 1) := by decide +kernel
theorem dX9_component_85 : decode cX9_component 85 = .ok (.invokevirtual 191, 3) := by decide +kernel
theorem dX9_component_88 : decode cX9_component 88 = .ok (.ireturn, 1) := by decide +kernel
theorem dX9_component_89 : decode cX9_component 89 = .ok (.aload_n 0, 1) := by decide +kernel
theorem dX9_component_90 : decode cX9_component 90 = .ok (.getfield 43, 3) := by decide +kernel
theorem dX9_component_93 : decode cX9_component 93 = .ok (.aload_n 0, 1) := by decide +kernel
theorem dX9_component_94 : decode cX9_component 94 = .ok (.getfield 26, 3) := by decide +kernel
theorem dX9_component_97 : decode cX9_component 97 = .ok (.iload_n 1, 1) := by decide +kernel
theorem dX9_component_98 : decode cX9_component 98 = .ok (.invokevirtual 127, 3) := by decide +kernel
theorem dX9_component_101 : decode cX9_component 101 = .ok (.ireturn, 1) := by decide +kernel
theorem dX9_component_102 : decode cX9_component 102 = .ok (.aload_n 0, 1) := by decide +kernel
theorem dX9_component_103 : decode cX9_component 103 = .ok (.getfield 26, 3) := by decide +kernel
theorem dX9_component_106 : decode cX9_component 106 = .ok (.iload_n 3, 1) := by decide +kernel
theorem dX9_component_107 : decode cX9_component 107 = .ok (.iconst 1, 1) := by decide +kernel
theorem dX9_component_108 : decode cX9_component 108 = .ok (.invokevirtual 119, 3) := by decide +kernel
theorem dX9_component_111 : decode cX9_component 111 = .ok (.ireturn, 1) := by decide +kernel
theorem dX9_component_112 : decode cX9_component 112 = .ok (.new 178, 3) := by decide +kernel
theorem dX9_component_115 : decode cX9_component 115 = .ok (.dup, 1) := by decide +kernel
theorem dX9_component_116 : decode cX9_component 116 = .ok (.ldc 194, 2) := by decide +kernel
theorem dX9_component_118 : decode cX9_component 118 = .ok (.invokespecial 182, 3) := by decide +kernel
theorem dX9_component_121 : decode cX9_component 121 = .ok (.athrow, 1) := by decide +kernel
theorem dX9_distance_0 : decode cX9_distance 0 = .ok (.aload_n 0, 1) := by decide +kernel
theorem dX9_distance_1 : decode cX9_distance 1 = .ok (.iload_n 1, 1) := by decide +kernel
theorem dX9_distance_2 : decode cX9_distance 2 = .ok (.invokevirtual 146, 3) := by decide +kernel
theorem dX9_distance_5 : decode cX9_distance 5 = .ok (.aload_n 0, 1) := by decide +kernel
theorem dX9_distance_6 : decode cX9_distance 6 = .ok (.iload_n 2, 1) := by decide +kernel
theorem dX9_distance_7 : decode cX9_distance 7 = .ok (.invokevirtual 146, 3) := by decide +kernel
theorem dX9_distance_10 : decode cX9_distance 10 = .ok (.aload_n 0, 1) := by decide +kernel
theorem dX9_distance_11 : decode cX9_distance 11 = .ok (.getfield 26, 3) := by decide +kernel
theorem dX9_distance_14 : decode cX9_distance 14 = .ok (.iload_n 1, 1) := by decide +kernel
theorem dX9_distance_15 : decode cX9_distance 15 = .ok (.iload_n 2, 1) := by decide +kernel
theorem dX9_distance_16 : decode cX9_distance 16 = .ok (.invokevirtual 196, 3) := by decide +kernel
theorem dX9_distance_19 : decode cX9_distance 19 = .ok (.ireturn, 1) := by decide +kernel
theorem dX9_onPath_0 : decode cX9_onPath 0 = .ok (.aload_n 0, 1) := by decide +kernel
theorem dX9_onPath_1 : decode cX9_onPath 1 = .ok (.iload_n 1, 1) := by decide +kernel
theorem dX9_onPath_2 : decode cX9_onPath 2 = .ok (.invokevirtual 146, 3) := by decide +kernel
theorem dX9_onPath_5 : decode cX9_onPath 5 = .ok (.aload_n 0, 1) := by decide +kernel
theorem dX9_onPath_6 : decode cX9_onPath 6 = .ok (.iload_n 2, 1) := by decide +kernel
theorem dX9_onPath_7 : decode cX9_onPath 7 = .ok (.invokevirtual 146, 3) := by decide +kernel
theorem dX9_onPath_10 : decode cX9_onPath 10 = .ok (.aload_n 0, 1) := by decide +kernel
theorem dX9_onPath_11 : decode cX9_onPath 11 = .ok (.getfield 26, 3) := by decide +kernel
theorem dX9_onPath_14 : decode cX9_onPath 14 = .ok (.iload_n 1, 1) := by decide +kernel
theorem dX9_onPath_15 : decode cX9_onPath 15 = .ok (.iload_n 2, 1) := by decide +kernel
theorem dX9_onPath_16 : decode cX9_onPath 16 = .ok (.iload_n 3, 1) := by decide +kernel
theorem dX9_onPath_17 : decode cX9_onPath 17 = .ok (.invokevirtual 199, 3) := by decide +kernel
theorem dX9_onPath_20 : decode cX9_onPath 20 = .ok (.istore 4, 2) := by decide +kernel
theorem dX9_onPath_22 : decode cX9_onPath 22 = .ok (.iload 4, 2) := by decide +kernel
theorem dX9_onPath_24 : decode cX9_onPath 24 = .ok (.iconst (-1), 1) := by decide +kernel
theorem dX9_onPath_25 : decode cX9_onPath 25 = .ok (.if_icmp .ne 13, 3) := by decide +kernel
theorem dX9_onPath_28 : decode cX9_onPath 28 = .ok (.new 203, 3) := by decide +kernel
theorem dX9_onPath_31 : decode cX9_onPath 31 = .ok (.dup, 1) := by decide +kernel
theorem dX9_onPath_32 : decode cX9_onPath 32 = .ok (.ldc 205, 2) := by decide +kernel
theorem dX9_onPath_34 : decode cX9_onPath 34 = .ok (.invokespecial 207, 3) := by decide +kernel
theorem dX9_onPath_37 : decode cX9_onPath 37 = .ok (.athrow, 1) := by decide +kernel
theorem dX9_onPath_38 : decode cX9_onPath 38 = .ok (.iload 4, 2) := by decide +kernel
theorem dX9_onPath_40 : decode cX9_onPath 40 = .ok (.ireturn, 1) := by decide +kernel
theorem dX9_median_0 : decode cX9_median 0 = .ok (.aload_n 0, 1) := by decide +kernel
theorem dX9_median_1 : decode cX9_median 1 = .ok (.iload_n 1, 1) := by decide +kernel
theorem dX9_median_2 : decode cX9_median 2 = .ok (.invokevirtual 146, 3) := by decide +kernel
theorem dX9_median_5 : decode cX9_median 5 = .ok (.aload_n 0, 1) := by decide +kernel
theorem dX9_median_6 : decode cX9_median 6 = .ok (.iload_n 2, 1) := by decide +kernel
theorem dX9_median_7 : decode cX9_median 7 = .ok (.invokevirtual 146, 3) := by decide +kernel
theorem dX9_median_10 : decode cX9_median 10 = .ok (.aload_n 0, 1) := by decide +kernel
theorem dX9_median_11 : decode cX9_median 11 = .ok (.iload_n 3, 1) := by decide +kernel
theorem dX9_median_12 : decode cX9_median 12 = .ok (.invokevirtual 146, 3) := by decide +kernel
theorem dX9_median_15 : decode cX9_median 15 = .ok (.aload_n 0, 1) := by decide +kernel
theorem dX9_median_16 : decode cX9_median 16 = .ok (.getfield 26, 3) := by decide +kernel
theorem dX9_median_19 : decode cX9_median 19 = .ok (.iload_n 1, 1) := by decide +kernel
theorem dX9_median_20 : decode cX9_median 20 = .ok (.iload_n 2, 1) := by decide +kernel
theorem dX9_median_21 : decode cX9_median 21 = .ok (.invokevirtual 208, 3) := by decide +kernel
theorem dX9_median_24 : decode cX9_median 24 = .ok (.aload_n 0, 1) := by decide +kernel
theorem dX9_median_25 : decode cX9_median 25 = .ok (.getfield 26, 3) := by decide +kernel
theorem dX9_median_28 : decode cX9_median 28 = .ok (.iload_n 2, 1) := by decide +kernel
theorem dX9_median_29 : decode cX9_median 29 = .ok (.iload_n 3, 1) := by decide +kernel
theorem dX9_median_30 : decode cX9_median 30 = .ok (.invokevirtual 208, 3) := by decide +kernel
theorem dX9_median_33 : decode cX9_median 33 = .ok (.iand, 1) := by decide +kernel
theorem dX9_median_34 : decode cX9_median 34 = .ok (.aload_n 0, 1) := by decide +kernel
theorem dX9_median_35 : decode cX9_median 35 = .ok (.getfield 26, 3) := by decide +kernel
theorem dX9_median_38 : decode cX9_median 38 = .ok (.iload_n 1, 1) := by decide +kernel
theorem dX9_median_39 : decode cX9_median 39 = .ok (.iload_n 3, 1) := by decide +kernel
theorem dX9_median_40 : decode cX9_median 40 = .ok (.invokevirtual 208, 3) := by decide +kernel
theorem dX9_median_43 : decode cX9_median 43 = .ok (.iand, 1) := by decide +kernel
theorem dX9_median_44 : decode cX9_median 44 = .ok (.istore 4, 2) := by decide +kernel
theorem dX9_median_46 : decode cX9_median 46 = .ok (.iload 4, 2) := by decide +kernel
theorem dX9_median_48 : decode cX9_median 48 = .ok (.ifCond .ne 13, 3) := by decide +kernel
theorem dX9_median_51 : decode cX9_median 51 = .ok (.new 203, 3) := by decide +kernel
theorem dX9_median_54 : decode cX9_median 54 = .ok (.dup, 1) := by decide +kernel
theorem dX9_median_55 : decode cX9_median 55 = .ok (.ldc 211, 2) := by decide +kernel
theorem dX9_median_57 : decode cX9_median 57 = .ok (.invokespecial 207, 3) := by decide +kernel
theorem dX9_median_60 : decode cX9_median 60 = .ok (.athrow, 1) := by decide +kernel
theorem dX9_median_61 : decode cX9_median 61 = .ok (.iload 4, 2) := by decide +kernel
theorem dX9_median_63 : decode cX9_median 63 = .ok (.invokestatic 213, 3) := by decide +kernel
theorem dX9_median_66 : decode cX9_median 66 = .ok (.ireturn, 1) := by decide +kernel
theorem dX9_meanDistance_0 : decode cX9_meanDistance 0 = .ok (.aload_n 0, 1) := by decide +kernel
theorem dX9_meanDistance_1 : decode cX9_meanDistance 1 = .ok (.iload_n 1, 1) := by decide +kernel
theorem dX9_meanDistance_2 : decode cX9_meanDistance 2 = .ok (.invokevirtual 146, 3) := by decide +kernel
theorem dX9_meanDistance_5 : decode cX9_meanDistance 5 = .ok (.aload_n 0, 1) := by decide +kernel
theorem dX9_meanDistance_6 : decode cX9_meanDistance 6 = .ok (.getfield 26, 3) := by decide +kernel
theorem dX9_meanDistance_9 : decode cX9_meanDistance 9 = .ok (.iload_n 1, 1) := by decide +kernel
theorem dX9_meanDistance_10 : decode cX9_meanDistance 10 = .ok (.invokevirtual 158, 3) := by decide +kernel
theorem dX9_meanDistance_13 : decode cX9_meanDistance 13 = .ok (.istore_n 2, 1) := by decide +kernel
theorem dX9_meanDistance_14 : decode cX9_meanDistance 14 = .ok (.iconst 0, 1) := by decide +kernel
theorem dX9_meanDistance_15 : decode cX9_meanDistance 15 = .ok (.istore_n 3, 1) := by decide +kernel
theorem dX9_meanDistance_16 : decode cX9_meanDistance 16 = .ok (.iconst 0, 1) := by decide +kernel
theorem dX9_meanDistance_17 : decode cX9_meanDistance 17 = .ok (.istore 4, 2) := by decide +kernel
theorem dX9_meanDistance_19 : decode cX9_meanDistance 19 = .ok (.iload 4, 2) := by decide +kernel
theorem dX9_meanDistance_21 : decode cX9_meanDistance 21 = .ok (.aload_n 0, 1) := by decide +kernel
theorem dX9_meanDistance_22 : decode cX9_meanDistance 22 = .ok (.getfield 26, 3) := by decide +kernel
theorem dX9_meanDistance_25 : decode cX9_meanDistance 25 = .ok (.getfield 110, 3) := by decide +kernel
theorem dX9_meanDistance_28 : decode cX9_meanDistance 28 = .ok (.if_icmp .ge 31, 3) := by decide +kernel
theorem dX9_meanDistance_31 : decode cX9_meanDistance 31 = .ok (.iload_n 2, 1) := by decide +kernel
theorem dX9_meanDistance_32 : decode cX9_meanDistance 32 = .ok (.iload 4, 2) := by decide +kernel
theorem dX9_meanDistance_34 : decode cX9_meanDistance 34 = .ok (.invokestatic 216, 3) := by decide +kernel
theorem dX9_meanDistance_37 : decode cX9_meanDistance 37 = .ok (.ifCond .eq 16, 3) := by decide +kernel
theorem dX9_meanDistance_40 : decode cX9_meanDistance 40 = .ok (.iload_n 3, 1) := by decide +kernel
theorem dX9_meanDistance_41 : decode cX9_meanDistance 41 = .ok (.aload_n 0, 1) := by decide +kernel
theorem dX9_meanDistance_42 : decode cX9_meanDistance 42 = .ok (.getfield 26, 3) := by decide +kernel
theorem dX9_meanDistance_45 : decode cX9_meanDistance 45 = .ok (.iload_n 1, 1) := by decide +kernel
theorem dX9_meanDistance_46 : decode cX9_meanDistance 46 = .ok (.iload 4, 2) := by decide +kernel
theorem dX9_meanDistance_48 : decode cX9_meanDistance 48 = .ok (.invokevirtual 196, 3) := by decide +kernel
theorem dX9_meanDistance_51 : decode cX9_meanDistance 51 = .ok (.iadd, 1) := by decide +kernel
theorem dX9_meanDistance_52 : decode cX9_meanDistance 52 = .ok (.istore_n 3, 1) := by decide +kernel
theorem dX9_meanDistance_53 : decode cX9_meanDistance 53 = .ok (.iinc 4 1, 3) := by decide +kernel
theorem dX9_meanDistance_56 : decode cX9_meanDistance 56 = .ok (.goto (-37), 3) := by decide +kernel
theorem dX9_meanDistance_59 : decode cX9_meanDistance 59 = .ok (.iload_n 2, 1) := by decide +kernel
theorem dX9_meanDistance_60 : decode cX9_meanDistance 60 = .ok (.invokestatic 161, 3) := by decide +kernel
theorem dX9_meanDistance_63 : decode cX9_meanDistance 63 = .ok (.istore 4, 2) := by decide +kernel
theorem dX9_meanDistance_65 : decode cX9_meanDistance 65 = .ok (.iload 4, 2) := by decide +kernel
theorem dX9_meanDistance_67 : decode cX9_meanDistance 67 = .ok (.ifCond .ne 7, 3) := by decide +kernel
theorem dX9_meanDistance_70 : decode cX9_meanDistance 70 = .ok (.dconst 0, 1) := by decide +kernel
theorem dX9_meanDistance_71 : decode cX9_meanDistance 71 = .ok (.goto 9, 3) := by decide +kernel
theorem dX9_meanDistance_74 : decode cX9_meanDistance 74 = .ok (.iload_n 3, 1) := by decide +kernel
theorem dX9_meanDistance_75 : decode cX9_meanDistance 75 = .ok (.i2d, 1) := by decide +kernel
theorem dX9_meanDistance_76 : decode cX9_meanDistance 76 = .ok (.iload 4, 2) := by decide +kernel
theorem dX9_meanDistance_78 : decode cX9_meanDistance 78 = .ok (.i2d, 1) := by decide +kernel
theorem dX9_meanDistance_79 : decode cX9_meanDistance 79 = .ok (.ddiv, 1) := by decide +kernel
theorem dX9_meanDistance_80 : decode cX9_meanDistance 80 = .ok (.dreturn, 1) := by decide +kernel
theorem dX9_balance_0 : decode cX9_balance 0 = .ok (.aload_n 0, 1) := by decide +kernel
theorem dX9_balance_1 : decode cX9_balance 1 = .ok (.iload_n 1, 1) := by decide +kernel
theorem dX9_balance_2 : decode cX9_balance 2 = .ok (.invokevirtual 146, 3) := by decide +kernel
theorem dX9_balance_5 : decode cX9_balance 5 = .ok (.aload_n 0, 1) := by decide +kernel
theorem dX9_balance_6 : decode cX9_balance 6 = .ok (.getfield 26, 3) := by decide +kernel
theorem dX9_balance_9 : decode cX9_balance 9 = .ok (.iload_n 1, 1) := by decide +kernel
theorem dX9_balance_10 : decode cX9_balance 10 = .ok (.invokevirtual 158, 3) := by decide +kernel
theorem dX9_balance_13 : decode cX9_balance 13 = .ok (.invokestatic 161, 3) := by decide +kernel
theorem dX9_balance_16 : decode cX9_balance 16 = .ok (.istore_n 2, 1) := by decide +kernel
theorem dX9_balance_17 : decode cX9_balance 17 = .ok (.iload_n 2, 1) := by decide +kernel
theorem dX9_balance_18 : decode cX9_balance 18 = .ok (.ifCond .ne 7, 3) := by decide +kernel
theorem dX9_balance_21 : decode cX9_balance 21 = .ok (.fconst 0, 1) := by decide +kernel
theorem dX9_balance_22 : decode cX9_balance 22 = .ok (.goto 16, 3) := by decide +kernel
theorem dX9_balance_25 : decode cX9_balance 25 = .ok (.aload_n 0, 1) := by decide +kernel
theorem dX9_balance_26 : decode cX9_balance 26 = .ok (.getfield 26, 3) := by decide +kernel
theorem dX9_balance_29 : decode cX9_balance 29 = .ok (.iload_n 1, 1) := by decide +kernel
theorem dX9_balance_30 : decode cX9_balance 30 = .ok (.iconst 0, 1) := by decide +kernel
theorem dX9_balance_31 : decode cX9_balance 31 = .ok (.invokevirtual 220, 3) := by decide +kernel
theorem dX9_balance_34 : decode cX9_balance 34 = .ok (.i2f, 1) := by decide +kernel
theorem dX9_balance_35 : decode cX9_balance 35 = .ok (.iload_n 2, 1) := by decide +kernel
theorem dX9_balance_36 : decode cX9_balance 36 = .ok (.i2f, 1) := by decide +kernel
theorem dX9_balance_37 : decode cX9_balance 37 = .ok (.fdiv, 1) := by decide +kernel
theorem dX9_balance_38 : decode cX9_balance 38 = .ok (.freturn, 1) := by decide +kernel
theorem dX9_code_0 : decode cX9_code 0 = .ok (.aload_n 0, 1) := by decide +kernel
theorem dX9_code_1 : decode cX9_code 1 = .ok (.invokevirtual 224, 3) := by decide +kernel
theorem dX9_code_4 : decode cX9_code 4 = .ok (.iload_n 1, 1) := by decide +kernel
theorem dX9_code_5 : decode cX9_code 5 = .ok (.ifCond .lt 17, 3) := by decide +kernel
theorem dX9_code_8 : decode cX9_code 8 = .ok (.iload_n 1, 1) := by decide +kernel
theorem dX9_code_9 : decode cX9_code 9 = .ok (.aload_n 0, 1) := by decide +kernel
theorem dX9_code_10 : decode cX9_code 10 = .ok (.getfield 26, 3) := by decide +kernel
theorem dX9_code_13 : decode cX9_code 13 = .ok (.getfield 110, 3) := by decide +kernel
theorem dX9_code_16 : decode cX9_code 16 = .ok (.invokestatic 227, 3) := by decide +kernel
theorem dX9_code_19 : decode cX9_code 19 = .ok (.if_icmp .lt 13, 3) := by decide +kernel
theorem dX9_code_22 : decode cX9_code 22 = .ok (.new 203, 3) := by decide +kernel
theorem dX9_code_25 : decode cX9_code 25 = .ok (.dup, 1) := by decide +kernel
theorem dX9_code_26 : decode cX9_code 26 = .ok (.ldc 230, 2) := by decide +kernel
theorem dX9_code_28 : decode cX9_code 28 = .ok (.invokespecial 207, 3) := by decide +kernel
theorem dX9_code_31 : decode cX9_code 31 = .ok (.athrow, 1) := by decide +kernel
theorem dX9_code_32 : decode cX9_code 32 = .ok (.aload_n 0, 1) := by decide +kernel
theorem dX9_code_33 : decode cX9_code 33 = .ok (.getfield 36, 3) := by decide +kernel
theorem dX9_code_36 : decode cX9_code 36 = .ok (.aload_n 0, 1) := by decide +kernel
theorem dX9_code_37 : decode cX9_code 37 = .ok (.getfield 26, 3) := by decide +kernel
theorem dX9_code_40 : decode cX9_code 40 = .ok (.invokevirtual 232, 3) := by decide +kernel
theorem dX9_code_43 : decode cX9_code 43 = .ok (.aload_n 0, 1) := by decide +kernel
theorem dX9_code_44 : decode cX9_code 44 = .ok (.getfield 36, 3) := by decide +kernel
theorem dX9_code_47 : decode cX9_code 47 = .ok (.iload_n 1, 1) := by decide +kernel
theorem dX9_code_48 : decode cX9_code 48 = .ok (.invokevirtual 235, 3) := by decide +kernel
theorem dX9_code_51 : decode cX9_code 51 = .ok (.ireturn, 1) := by decide +kernel
theorem dX9_rank_0 : decode cX9_rank 0 = .ok (.aload_n 0, 1) := by decide +kernel
theorem dX9_rank_1 : decode cX9_rank 1 = .ok (.invokevirtual 224, 3) := by decide +kernel
theorem dX9_rank_4 : decode cX9_rank 4 = .ok (.aload_n 0, 1) := by decide +kernel
theorem dX9_rank_5 : decode cX9_rank 5 = .ok (.getfield 36, 3) := by decide +kernel
theorem dX9_rank_8 : decode cX9_rank 8 = .ok (.aload_n 0, 1) := by decide +kernel
theorem dX9_rank_9 : decode cX9_rank 9 = .ok (.getfield 26, 3) := by decide +kernel
theorem dX9_rank_12 : decode cX9_rank 12 = .ok (.invokevirtual 238, 3) := by decide +kernel
theorem dX9_rank_15 : decode cX9_rank 15 = .ok (.ireturn, 1) := by decide +kernel
theorem dX9_sameDegrees_0 : decode cX9_sameDegrees 0 = .ok (.aload_n 0, 1) := by decide +kernel
theorem dX9_sameDegrees_1 : decode cX9_sameDegrees 1 = .ok (.invokevirtual 224, 3) := by decide +kernel
theorem dX9_sameDegrees_4 : decode cX9_sameDegrees 4 = .ok (.aload_n 0, 1) := by decide +kernel
theorem dX9_sameDegrees_5 : decode cX9_sameDegrees 5 = .ok (.getfield 26, 3) := by decide +kernel
theorem dX9_sameDegrees_8 : decode cX9_sameDegrees 8 = .ok (.getfield 110, 3) := by decide +kernel
theorem dX9_sameDegrees_11 : decode cX9_sameDegrees 11 = .ok (.iconst 2, 1) := by decide +kernel
theorem dX9_sameDegrees_12 : decode cX9_sameDegrees 12 = .ok (.isub, 1) := by decide +kernel
theorem dX9_sameDegrees_13 : decode cX9_sameDegrees 13 = .ok (.invokestatic 242, 3) := by decide +kernel
theorem dX9_sameDegrees_16 : decode cX9_sameDegrees 16 = .ok (.istore_n 1, 1) := by decide +kernel
theorem dX9_sameDegrees_17 : decode cX9_sameDegrees 17 = .ok (.iconst 0, 1) := by decide +kernel
theorem dX9_sameDegrees_18 : decode cX9_sameDegrees 18 = .ok (.istore_n 2, 1) := by decide +kernel
theorem dX9_sameDegrees_19 : decode cX9_sameDegrees 19 = .ok (.iload_n 2, 1) := by decide +kernel
theorem dX9_sameDegrees_20 : decode cX9_sameDegrees 20 = .ok (.aload_n 0, 1) := by decide +kernel
theorem dX9_sameDegrees_21 : decode cX9_sameDegrees 21 = .ok (.getfield 26, 3) := by decide +kernel
theorem dX9_sameDegrees_24 : decode cX9_sameDegrees 24 = .ok (.getfield 110, 3) := by decide +kernel
theorem dX9_sameDegrees_27 : decode cX9_sameDegrees 27 = .ok (.if_icmp .ge 27, 3) := by decide +kernel
theorem dX9_sameDegrees_30 : decode cX9_sameDegrees 30 = .ok (.iload_n 1, 1) := by decide +kernel
theorem dX9_sameDegrees_31 : decode cX9_sameDegrees 31 = .ok (.aload_n 0, 1) := by decide +kernel
theorem dX9_sameDegrees_32 : decode cX9_sameDegrees 32 = .ok (.getfield 26, 3) := by decide +kernel
theorem dX9_sameDegrees_35 : decode cX9_sameDegrees 35 = .ok (.iload_n 2, 1) := by decide +kernel
theorem dX9_sameDegrees_36 : decode cX9_sameDegrees 36 = .ok (.invokevirtual 149, 3) := by decide +kernel
theorem dX9_sameDegrees_39 : decode cX9_sameDegrees 39 = .ok (.iconst 1, 1) := by decide +kernel
theorem dX9_sameDegrees_40 : decode cX9_sameDegrees 40 = .ok (.isub, 1) := by decide +kernel
theorem dX9_sameDegrees_41 : decode cX9_sameDegrees 41 = .ok (.invokestatic 242, 3) := by decide +kernel
theorem dX9_sameDegrees_44 : decode cX9_sameDegrees 44 = .ok (.invokestatic 245, 3) := by decide +kernel
theorem dX9_sameDegrees_47 : decode cX9_sameDegrees 47 = .ok (.istore_n 1, 1) := by decide +kernel
theorem dX9_sameDegrees_48 : decode cX9_sameDegrees 48 = .ok (.iinc 2 1, 3) := by decide +kernel
theorem dX9_sameDegrees_51 : decode cX9_sameDegrees 51 = .ok (.goto (-32), 3) := by decide +kernel
theorem dX9_sameDegrees_54 : decode cX9_sameDegrees 54 = .ok (.iload_n 1, 1) := by decide +kernel
theorem dX9_sameDegrees_55 : decode cX9_sameDegrees 55 = .ok (.ireturn, 1) := by decide +kernel
theorem dX9_writeWord_0 : decode cX9_writeWord 0 = .ok (.aload_n 0, 1) := by decide +kernel
theorem dX9_writeWord_1 : decode cX9_writeWord 1 = .ok (.iload_n 1, 1) := by decide +kernel
theorem dX9_writeWord_2 : decode cX9_writeWord 2 = .ok (.invokevirtual 185, 3) := by decide +kernel
theorem dX9_writeWord_5 : decode cX9_writeWord 5 = .ok (.istore_n 2, 1) := by decide +kernel
theorem dX9_writeWord_6 : decode cX9_writeWord 6 = .ok (.aload_n 0, 1) := by decide +kernel
theorem dX9_writeWord_7 : decode cX9_writeWord 7 = .ok (.getfield 19, 3) := by decide +kernel
theorem dX9_writeWord_10 : decode cX9_writeWord 10 = .ok (.iconst 0, 1) := by decide +kernel
theorem dX9_writeWord_11 : decode cX9_writeWord 11 = .ok (.invokevirtual 83, 3) := by decide +kernel
theorem dX9_writeWord_14 : decode cX9_writeWord 14 = .ok (.pop, 1) := by decide +kernel
theorem dX9_writeWord_15 : decode cX9_writeWord 15 = .ok (.aload_n 0, 1) := by decide +kernel
theorem dX9_writeWord_16 : decode cX9_writeWord 16 = .ok (.getfield 43, 3) := by decide +kernel
theorem dX9_writeWord_19 : decode cX9_writeWord 19 = .ok (.aload_n 0, 1) := by decide +kernel
theorem dX9_writeWord_20 : decode cX9_writeWord 20 = .ok (.getfield 26, 3) := by decide +kernel
theorem dX9_writeWord_23 : decode cX9_writeWord 23 = .ok (.iload_n 2, 1) := by decide +kernel
theorem dX9_writeWord_24 : decode cX9_writeWord 24 = .ok (.invokevirtual 248, 3) := by decide +kernel
theorem dX9_writeWord_27 : decode cX9_writeWord 27 = .ok (.istore_n 3, 1) := by decide +kernel
theorem dX9_writeWord_28 : decode cX9_writeWord 28 = .ok (.iconst 2, 1) := by decide +kernel
theorem dX9_writeWord_29 : decode cX9_writeWord 29 = .ok (.iload_n 2, 1) := by decide +kernel
theorem dX9_writeWord_30 : decode cX9_writeWord 30 = .ok (.invokestatic 161, 3) := by decide +kernel
theorem dX9_writeWord_33 : decode cX9_writeWord 33 = .ok (.imul, 1) := by decide +kernel
theorem dX9_writeWord_34 : decode cX9_writeWord 34 = .ok (.istore 4, 2) := by decide +kernel
theorem dX9_writeWord_36 : decode cX9_writeWord 36 = .ok (.iconst 0, 1) := by decide +kernel
theorem dX9_writeWord_37 : decode cX9_writeWord 37 = .ok (.istore 5, 2) := by decide +kernel
theorem dX9_writeWord_39 : decode cX9_writeWord 39 = .ok (.iload 5, 2) := by decide +kernel
theorem dX9_writeWord_41 : decode cX9_writeWord 41 = .ok (.iload 4, 2) := by decide +kernel
theorem dX9_writeWord_43 : decode cX9_writeWord 43 = .ok (.if_icmp .ge 22, 3) := by decide +kernel
theorem dX9_writeWord_46 : decode cX9_writeWord 46 = .ok (.aload_n 0, 1) := by decide +kernel
theorem dX9_writeWord_47 : decode cX9_writeWord 47 = .ok (.getfield 19, 3) := by decide +kernel
theorem dX9_writeWord_50 : decode cX9_writeWord 50 = .ok (.iload_n 3, 1) := by decide +kernel
theorem dX9_writeWord_51 : decode cX9_writeWord 51 = .ok (.iload 5, 2) := by decide +kernel
theorem dX9_writeWord_53 : decode cX9_writeWord 53 = .ok (.invokestatic 251, 3) := by decide +kernel
theorem dX9_writeWord_56 : decode cX9_writeWord 56 = .ok (.invokevirtual 254, 3) := by decide +kernel
theorem dX9_writeWord_59 : decode cX9_writeWord 59 = .ok (.iinc 5 1, 3) := by decide +kernel
theorem dX9_writeWord_62 : decode cX9_writeWord 62 = .ok (.goto (-23), 3) := by decide +kernel
theorem dX9_writeWord_65 : decode cX9_writeWord 65 = .ok (.aload_n 0, 1) := by decide +kernel
theorem dX9_writeWord_66 : decode cX9_writeWord 66 = .ok (.getfield 19, 3) := by decide +kernel
theorem dX9_writeWord_69 : decode cX9_writeWord 69 = .ok (.getfield 75, 3) := by decide +kernel
theorem dX9_writeWord_72 : decode cX9_writeWord 72 = .ok (.ireturn, 1) := by decide +kernel
theorem dX9_writeText_0 : decode cX9_writeText 0 = .ok (.aload_n 0, 1) := by decide +kernel
theorem dX9_writeText_1 : decode cX9_writeText 1 = .ok (.getfield 19, 3) := by decide +kernel
theorem dX9_writeText_4 : decode cX9_writeText 4 = .ok (.iconst 0, 1) := by decide +kernel
theorem dX9_writeText_5 : decode cX9_writeText 5 = .ok (.invokevirtual 83, 3) := by decide +kernel
theorem dX9_writeText_8 : decode cX9_writeText 8 = .ok (.pop, 1) := by decide +kernel
theorem dX9_writeText_9 : decode cX9_writeText 9 = .ok (.aload_n 0, 1) := by decide +kernel
theorem dX9_writeText_10 : decode cX9_writeText 10 = .ok (.getfield 19, 3) := by decide +kernel
theorem dX9_writeText_13 : decode cX9_writeText 13 = .ok (.ldc_w 257, 3) := by decide +kernel
theorem dX9_writeText_16 : decode cX9_writeText 16 = .ok (.aload_n 0, 1) := by decide +kernel
theorem dX9_writeText_17 : decode cX9_writeText 17 = .ok (.getfield 26, 3) := by decide +kernel
theorem dX9_writeText_20 : decode cX9_writeText 20 = .ok (.getfield 110, 3) := by decide +kernel
theorem dX9_writeText_23 : decode cX9_writeText 23 = .ok (.iconst (-1), 1) := by decide +kernel
theorem dX9_writeText_24 : decode cX9_writeText 24 = .ok (.invokevirtual 259, 3) := by decide +kernel
theorem dX9_writeText_27 : decode cX9_writeText 27 = .ok (.iconst 0, 1) := by decide +kernel
theorem dX9_writeText_28 : decode cX9_writeText 28 = .ok (.istore_n 1, 1) := by decide +kernel
theorem dX9_writeText_29 : decode cX9_writeText 29 = .ok (.iload_n 1, 1) := by decide +kernel
theorem dX9_writeText_30 : decode cX9_writeText 30 = .ok (.aload_n 0, 1) := by decide +kernel
theorem dX9_writeText_31 : decode cX9_writeText 31 = .ok (.getfield 26, 3) := by decide +kernel
theorem dX9_writeText_34 : decode cX9_writeText 34 = .ok (.getfield 110, 3) := by decide +kernel
theorem dX9_writeText_37 : decode cX9_writeText 37 = .ok (.if_icmp .ge 54, 3) := by decide +kernel
theorem dX9_writeText_40 : decode cX9_writeText 40 = .ok (.iload_n 1, 1) := by decide +kernel
theorem dX9_writeText_41 : decode cX9_writeText 41 = .ok (.iconst 1, 1) := by decide +kernel
theorem dX9_writeText_42 : decode cX9_writeText 42 = .ok (.iadd, 1) := by decide +kernel
theorem dX9_writeText_43 : decode cX9_writeText 43 = .ok (.istore_n 2, 1) := by decide +kernel
theorem dX9_writeText_44 : decode cX9_writeText 44 = .ok (.iload_n 2, 1) := by decide +kernel
theorem dX9_writeText_45 : decode cX9_writeText 45 = .ok (.aload_n 0, 1) := by decide +kernel
theorem dX9_writeText_46 : decode cX9_writeText 46 = .ok (.getfield 26, 3) := by decide +kernel
theorem dX9_writeText_49 : decode cX9_writeText 49 = .ok (.getfield 110, 3) := by decide +kernel
theorem dX9_writeText_52 : decode cX9_writeText 52 = .ok (.if_icmp .ge 33, 3) := by decide +kernel
theorem dX9_writeText_55 : decode cX9_writeText 55 = .ok (.aload_n 0, 1) := by decide +kernel
theorem dX9_writeText_56 : decode cX9_writeText 56 = .ok (.getfield 26, 3) := by decide +kernel
theorem dX9_writeText_59 : decode cX9_writeText 59 = .ok (.iload_n 1, 1) := by decide +kernel
theorem dX9_writeText_60 : decode cX9_writeText 60 = .ok (.iload_n 2, 1) := by decide +kernel
theorem dX9_writeText_61 : decode cX9_writeText 61 = .ok (.invokevirtual 263, 3) := by decide +kernel
theorem dX9_writeText_64 : decode cX9_writeText 64 = .ok (.ifCond .eq 15, 3) := by decide +kernel
theorem dX9_writeText_67 : decode cX9_writeText 67 = .ok (.aload_n 0, 1) := by decide +kernel
theorem dX9_writeText_68 : decode cX9_writeText 68 = .ok (.getfield 19, 3) := by decide +kernel
theorem dX9_writeText_71 : decode cX9_writeText 71 = .ok (.ldc_w 266, 3) := by decide +kernel
theorem dX9_writeText_74 : decode cX9_writeText 74 = .ok (.iload_n 1, 1) := by decide +kernel
theorem dX9_writeText_75 : decode cX9_writeText 75 = .ok (.iload_n 2, 1) := by decide +kernel
theorem dX9_writeText_76 : decode cX9_writeText 76 = .ok (.invokevirtual 259, 3) := by decide +kernel
theorem dX9_writeText_79 : decode cX9_writeText 79 = .ok (.iinc 2 1, 3) := by decide +kernel
theorem dX9_writeText_82 : decode cX9_writeText 82 = .ok (.goto (-38), 3) := by decide +kernel
theorem dX9_writeText_85 : decode cX9_writeText 85 = .ok (.iinc 1 1, 3) := by decide +kernel
theorem dX9_writeText_88 : decode cX9_writeText 88 = .ok (.goto (-59), 3) := by decide +kernel
theorem dX9_writeText_91 : decode cX9_writeText 91 = .ok (.iconst 0, 1) := by decide +kernel
theorem dX9_writeText_92 : decode cX9_writeText 92 = .ok (.istore_n 1, 1) := by decide +kernel
theorem dX9_writeText_93 : decode cX9_writeText 93 = .ok (.iload_n 1, 1) := by decide +kernel
theorem dX9_writeText_94 : decode cX9_writeText 94 = .ok (.aload_n 0, 1) := by decide +kernel
theorem dX9_writeText_95 : decode cX9_writeText 95 = .ok (.getfield 26, 3) := by decide +kernel
theorem dX9_writeText_98 : decode cX9_writeText 98 = .ok (.getfield 110, 3) := by decide +kernel
theorem dX9_writeText_101 : decode cX9_writeText 101 = .ok (.if_icmp .ge 40, 3) := by decide +kernel
theorem dX9_writeText_104 : decode cX9_writeText 104 = .ok (.aload_n 0, 1) := by decide +kernel
theorem dX9_writeText_105 : decode cX9_writeText 105 = .ok (.getfield 26, 3) := by decide +kernel
theorem dX9_writeText_108 : decode cX9_writeText 108 = .ok (.iload_n 1, 1) := by decide +kernel
theorem dX9_writeText_109 : decode cX9_writeText 109 = .ok (.invokevirtual 152, 3) := by decide +kernel
theorem dX9_writeText_112 : decode cX9_writeText 112 = .ok (.iconst 1, 1) := by decide +kernel
theorem dX9_writeText_113 : decode cX9_writeText 113 = .ok (.if_icmp .eq 22, 3) := by decide +kernel
theorem dX9_writeText_116 : decode cX9_writeText 116 = .ok (.aload_n 0, 1) := by decide +kernel
theorem dX9_writeText_117 : decode cX9_writeText 117 = .ok (.getfield 19, 3) := by decide +kernel
theorem dX9_writeText_120 : decode cX9_writeText 120 = .ok (.ldc_w 268, 3) := by decide +kernel
theorem dX9_writeText_123 : decode cX9_writeText 123 = .ok (.iload_n 1, 1) := by decide +kernel
theorem dX9_writeText_124 : decode cX9_writeText 124 = .ok (.aload_n 0, 1) := by decide +kernel
theorem dX9_writeText_125 : decode cX9_writeText 125 = .ok (.getfield 26, 3) := by decide +kernel
theorem dX9_writeText_128 : decode cX9_writeText 128 = .ok (.iload_n 1, 1) := by decide +kernel
theorem dX9_writeText_129 : decode cX9_writeText 129 = .ok (.invokevirtual 152, 3) := by decide +kernel
theorem dX9_writeText_132 : decode cX9_writeText 132 = .ok (.invokevirtual 259, 3) := by decide +kernel
theorem dX9_writeText_135 : decode cX9_writeText 135 = .ok (.iinc 1 1, 3) := by decide +kernel
theorem dX9_writeText_138 : decode cX9_writeText 138 = .ok (.goto (-45), 3) := by decide +kernel
theorem dX9_writeText_141 : decode cX9_writeText 141 = .ok (.aload_n 0, 1) := by decide +kernel
theorem dX9_writeText_142 : decode cX9_writeText 142 = .ok (.getfield 19, 3) := by decide +kernel
theorem dX9_writeText_145 : decode cX9_writeText 145 = .ok (.getfield 75, 3) := by decide +kernel
theorem dX9_writeText_148 : decode cX9_writeText 148 = .ok (.ireturn, 1) := by decide +kernel
theorem dX9_outputByte_0 : decode cX9_outputByte 0 = .ok (.iload_n 1, 1) := by decide +kernel
theorem dX9_outputByte_1 : decode cX9_outputByte 1 = .ok (.ifCond .lt 14, 3) := by decide +kernel
theorem dX9_outputByte_4 : decode cX9_outputByte 4 = .ok (.iload_n 1, 1) := by decide +kernel
theorem dX9_outputByte_5 : decode cX9_outputByte 5 = .ok (.aload_n 0, 1) := by decide +kernel
theorem dX9_outputByte_6 : decode cX9_outputByte 6 = .ok (.getfield 19, 3) := by decide +kernel
theorem dX9_outputByte_9 : decode cX9_outputByte 9 = .ok (.getfield 75, 3) := by decide +kernel
theorem dX9_outputByte_12 : decode cX9_outputByte 12 = .ok (.if_icmp .lt 14, 3) := by decide +kernel
theorem dX9_outputByte_15 : decode cX9_outputByte 15 = .ok (.new 203, 3) := by decide +kernel
theorem dX9_outputByte_18 : decode cX9_outputByte 18 = .ok (.dup, 1) := by decide +kernel
theorem dX9_outputByte_19 : decode cX9_outputByte 19 = .ok (.ldc_w 270, 3) := by decide +kernel
theorem dX9_outputByte_22 : decode cX9_outputByte 22 = .ok (.invokespecial 207, 3) := by decide +kernel
theorem dX9_outputByte_25 : decode cX9_outputByte 25 = .ok (.athrow, 1) := by decide +kernel
theorem dX9_outputByte_26 : decode cX9_outputByte 26 = .ok (.aload_n 0, 1) := by decide +kernel
theorem dX9_outputByte_27 : decode cX9_outputByte 27 = .ok (.getfield 19, 3) := by decide +kernel
theorem dX9_outputByte_30 : decode cX9_outputByte 30 = .ok (.iload_n 1, 1) := by decide +kernel
theorem dX9_outputByte_31 : decode cX9_outputByte 31 = .ok (.invokevirtual 272, 3) := by decide +kernel
theorem dX9_outputByte_34 : decode cX9_outputByte 34 = .ok (.ireturn, 1) := by decide +kernel
theorem dX9_symmetries_0 : decode cX9_symmetries 0 = .ok (.aload_n 0, 1) := by decide +kernel
theorem dX9_symmetries_1 : decode cX9_symmetries 1 = .ok (.getfield 43, 3) := by decide +kernel
theorem dX9_symmetries_4 : decode cX9_symmetries 4 = .ok (.aload_n 0, 1) := by decide +kernel
theorem dX9_symmetries_5 : decode cX9_symmetries 5 = .ok (.getfield 26, 3) := by decide +kernel
theorem dX9_symmetries_8 : decode cX9_symmetries 8 = .ok (.aload_n 0, 1) := by decide +kernel
theorem dX9_symmetries_9 : decode cX9_symmetries 9 = .ok (.iload_n 1, 1) := by decide +kernel
theorem dX9_symmetries_10 : decode cX9_symmetries 10 = .ok (.invokevirtual 185, 3) := by decide +kernel
theorem dX9_symmetries_13 : decode cX9_symmetries 13 = .ok (.invokevirtual 275, 3) := by decide +kernel
theorem dX9_symmetries_16 : decode cX9_symmetries 16 = .ok (.ireturn, 1) := by decide +kernel
theorem dX9_labellings_0 : decode cX9_labellings 0 = .ok (.aload_n 0, 1) := by decide +kernel
theorem dX9_labellings_1 : decode cX9_labellings 1 = .ok (.iload_n 1, 1) := by decide +kernel
theorem dX9_labellings_2 : decode cX9_labellings 2 = .ok (.invokevirtual 185, 3) := by decide +kernel
theorem dX9_labellings_5 : decode cX9_labellings 5 = .ok (.istore_n 2, 1) := by decide +kernel
theorem dX9_labellings_6 : decode cX9_labellings 6 = .ok (.iload_n 2, 1) := by decide +kernel
theorem dX9_labellings_7 : decode cX9_labellings 7 = .ok (.invokestatic 161, 3) := by decide +kernel
theorem dX9_labellings_10 : decode cX9_labellings 10 = .ok (.invokestatic 242, 3) := by decide +kernel
theorem dX9_labellings_13 : decode cX9_labellings 13 = .ok (.aload_n 0, 1) := by decide +kernel
theorem dX9_labellings_14 : decode cX9_labellings 14 = .ok (.getfield 43, 3) := by decide +kernel
theorem dX9_labellings_17 : decode cX9_labellings 17 = .ok (.aload_n 0, 1) := by decide +kernel
theorem dX9_labellings_18 : decode cX9_labellings 18 = .ok (.getfield 26, 3) := by decide +kernel
theorem dX9_labellings_21 : decode cX9_labellings 21 = .ok (.iload_n 2, 1) := by decide +kernel
theorem dX9_labellings_22 : decode cX9_labellings 22 = .ok (.invokevirtual 275, 3) := by decide +kernel
theorem dX9_labellings_25 : decode cX9_labellings 25 = .ok (.invokestatic 245, 3) := by decide +kernel
theorem dX9_labellings_28 : decode cX9_labellings 28 = .ok (.ireturn, 1) := by decide +kernel
theorem dX9_withLeaves_0 : decode cX9_withLeaves 0 = .ok (.iload_n 1, 1) := by decide +kernel
theorem dX9_withLeaves_1 : decode cX9_withLeaves 1 = .ok (.iconst 1, 1) := by decide +kernel
theorem dX9_withLeaves_2 : decode cX9_withLeaves 2 = .ok (.if_icmp .lt 19, 3) := by decide +kernel
theorem dX9_withLeaves_5 : decode cX9_withLeaves 5 = .ok (.iload_n 1, 1) := by decide +kernel
theorem dX9_withLeaves_6 : decode cX9_withLeaves 6 = .ok (.bipush 10, 2) := by decide +kernel
theorem dX9_withLeaves_8 : decode cX9_withLeaves 8 = .ok (.if_icmp .gt 13, 3) := by decide +kernel
theorem dX9_withLeaves_11 : decode cX9_withLeaves 11 = .ok (.iload_n 2, 1) := by decide +kernel
theorem dX9_withLeaves_12 : decode cX9_withLeaves 12 = .ok (.ifCond .lt 9, 3) := by decide +kernel
theorem dX9_withLeaves_15 : decode cX9_withLeaves 15 = .ok (.iload_n 2, 1) := by decide +kernel
theorem dX9_withLeaves_16 : decode cX9_withLeaves 16 = .ok (.bipush 10, 2) := by decide +kernel
theorem dX9_withLeaves_18 : decode cX9_withLeaves 18 = .ok (.if_icmp .le 14, 3) := by decide +kernel
theorem dX9_withLeaves_21 : decode cX9_withLeaves 21 = .ok (.new 178, 3) := by decide +kernel
theorem dX9_withLeaves_24 : decode cX9_withLeaves 24 = .ok (.dup, 1) := by decide +kernel
theorem dX9_withLeaves_25 : decode cX9_withLeaves 25 = .ok (.ldc_w 278, 3) := by decide +kernel
theorem dX9_withLeaves_28 : decode cX9_withLeaves 28 = .ok (.invokespecial 182, 3) := by decide +kernel
theorem dX9_withLeaves_31 : decode cX9_withLeaves 31 = .ok (.athrow, 1) := by decide +kernel
theorem dX9_withLeaves_32 : decode cX9_withLeaves 32 = .ok (.aload_n 0, 1) := by decide +kernel
theorem dX9_withLeaves_33 : decode cX9_withLeaves 33 = .ok (.getfield 50, 3) := by decide +kernel
theorem dX9_withLeaves_36 : decode cX9_withLeaves 36 = .ok (.iload_n 1, 1) := by decide +kernel
theorem dX9_withLeaves_37 : decode cX9_withLeaves 37 = .ok (.iload_n 2, 1) := by decide +kernel
theorem dX9_withLeaves_38 : decode cX9_withLeaves 38 = .ok (.invokevirtual 280, 3) := by decide +kernel
theorem dX9_withLeaves_41 : decode cX9_withLeaves 41 = .ok (.ireturn, 1) := by decide +kernel
theorem dX9_classes_0 : decode cX9_classes 0 = .ok (.iload_n 1, 1) := by decide +kernel
theorem dX9_classes_1 : decode cX9_classes 1 = .ok (.iconst 1, 1) := by decide +kernel
theorem dX9_classes_2 : decode cX9_classes 2 = .ok (.if_icmp .lt 9, 3) := by decide +kernel
theorem dX9_classes_5 : decode cX9_classes 5 = .ok (.iload_n 1, 1) := by decide +kernel
theorem dX9_classes_6 : decode cX9_classes 6 = .ok (.bipush 10, 2) := by decide +kernel
theorem dX9_classes_8 : decode cX9_classes 8 = .ok (.if_icmp .le 14, 3) := by decide +kernel
theorem dX9_classes_11 : decode cX9_classes 11 = .ok (.new 178, 3) := by decide +kernel
theorem dX9_classes_14 : decode cX9_classes 14 = .ok (.dup, 1) := by decide +kernel
theorem dX9_classes_15 : decode cX9_classes 15 = .ok (.ldc_w 283, 3) := by decide +kernel
theorem dX9_classes_18 : decode cX9_classes 18 = .ok (.invokespecial 182, 3) := by decide +kernel
theorem dX9_classes_21 : decode cX9_classes 21 = .ok (.athrow, 1) := by decide +kernel
theorem dX9_classes_22 : decode cX9_classes 22 = .ok (.iload_n 2, 1) := by decide +kernel
theorem dX9_classes_23 : decode cX9_classes 23 = .ok (.ifCond .eq 14, 3) := by decide +kernel
theorem dX9_classes_26 : decode cX9_classes 26 = .ok (.aload_n 0, 1) := by decide +kernel
theorem dX9_classes_27 : decode cX9_classes 27 = .ok (.getfield 50, 3) := by decide +kernel
theorem dX9_classes_30 : decode cX9_classes 30 = .ok (.iload_n 1, 1) := by decide +kernel
theorem dX9_classes_31 : decode cX9_classes 31 = .ok (.invokevirtual 285, 3) := by decide +kernel
theorem dX9_classes_34 : decode cX9_classes 34 = .ok (.goto 11, 3) := by decide +kernel
theorem dX9_classes_37 : decode cX9_classes 37 = .ok (.aload_n 0, 1) := by decide +kernel
theorem dX9_classes_38 : decode cX9_classes 38 = .ok (.getfield 50, 3) := by decide +kernel
theorem dX9_classes_41 : decode cX9_classes 41 = .ok (.iload_n 1, 1) := by decide +kernel
theorem dX9_classes_42 : decode cX9_classes 42 = .ok (.invokevirtual 288, 3) := by decide +kernel
theorem dX9_classes_45 : decode cX9_classes 45 = .ok (.ireturn, 1) := by decide +kernel
theorem dX9_survey_0 : decode cX9_survey 0 = .ok (.iload_n 1, 1) := by decide +kernel
theorem dX9_survey_1 : decode cX9_survey 1 = .ok (.iconst 1, 1) := by decide +kernel
theorem dX9_survey_2 : decode cX9_survey 2 = .ok (.if_icmp .lt 18, 3) := by decide +kernel
theorem dX9_survey_5 : decode cX9_survey 5 = .ok (.iload_n 1, 1) := by decide +kernel
theorem dX9_survey_6 : decode cX9_survey 6 = .ok (.bipush 6, 2) := by decide +kernel
theorem dX9_survey_8 : decode cX9_survey 8 = .ok (.if_icmp .gt 12, 3) := by decide +kernel
theorem dX9_survey_11 : decode cX9_survey 11 = .ok (.iload_n 2, 1) := by decide +kernel
theorem dX9_survey_12 : decode cX9_survey 12 = .ok (.ifCond .lt 8, 3) := by decide +kernel
theorem dX9_survey_15 : decode cX9_survey 15 = .ok (.iload_n 2, 1) := by decide +kernel
theorem dX9_survey_16 : decode cX9_survey 16 = .ok (.iconst 3, 1) := by decide +kernel
theorem dX9_survey_17 : decode cX9_survey 17 = .ok (.if_icmp .lt 14, 3) := by decide +kernel
theorem dX9_survey_20 : decode cX9_survey 20 = .ok (.new 178, 3) := by decide +kernel
theorem dX9_survey_23 : decode cX9_survey 23 = .ok (.dup, 1) := by decide +kernel
theorem dX9_survey_24 : decode cX9_survey 24 = .ok (.ldc_w 291, 3) := by decide +kernel
theorem dX9_survey_27 : decode cX9_survey 27 = .ok (.invokespecial 182, 3) := by decide +kernel
theorem dX9_survey_30 : decode cX9_survey 30 = .ok (.athrow, 1) := by decide +kernel
theorem dX9_survey_31 : decode cX9_survey 31 = .ok (.aload_n 0, 1) := by decide +kernel
theorem dX9_survey_32 : decode cX9_survey 32 = .ok (.getfield 57, 3) := by decide +kernel
theorem dX9_survey_35 : decode cX9_survey 35 = .ok (.iload_n 1, 1) := by decide +kernel
theorem dX9_survey_36 : decode cX9_survey 36 = .ok (.invokevirtual 293, 3) := by decide +kernel
theorem dX9_survey_39 : decode cX9_survey 39 = .ok (.aload_n 0, 1) := by decide +kernel
theorem dX9_survey_40 : decode cX9_survey 40 = .ok (.getfield 57, 3) := by decide +kernel
theorem dX9_survey_43 : decode cX9_survey 43 = .ok (.iload_n 1, 1) := by decide +kernel
theorem dX9_survey_44 : decode cX9_survey 44 = .ok (.iload_n 2, 1) := by decide +kernel
theorem dX9_survey_45 : decode cX9_survey 45 = .ok (.invokevirtual 296, 3) := by decide +kernel
theorem dX9_survey_48 : decode cX9_survey 48 = .ok (.ireturn, 1) := by decide +kernel
theorem dX9_link_0 : decode cX9_link 0 = .ok (.aload_n 0, 1) := by decide +kernel
theorem dX9_link_1 : decode cX9_link 1 = .ok (.iload_n 1, 1) := by decide +kernel
theorem dX9_link_2 : decode cX9_link 2 = .ok (.invokevirtual 146, 3) := by decide +kernel
theorem dX9_link_5 : decode cX9_link 5 = .ok (.aload_n 0, 1) := by decide +kernel
theorem dX9_link_6 : decode cX9_link 6 = .ok (.iload_n 2, 1) := by decide +kernel
theorem dX9_link_7 : decode cX9_link 7 = .ok (.invokevirtual 146, 3) := by decide +kernel
theorem dX9_link_10 : decode cX9_link 10 = .ok (.aload_n 0, 1) := by decide +kernel
theorem dX9_link_11 : decode cX9_link 11 = .ok (.iload_n 1, 1) := by decide +kernel
theorem dX9_link_12 : decode cX9_link 12 = .ok (.iload_n 2, 1) := by decide +kernel
theorem dX9_link_13 : decode cX9_link 13 = .ok (.invokevirtual 299, 3) := by decide +kernel
theorem dX9_link_16 : decode cX9_link 16 = .ok (.istore_n 3, 1) := by decide +kernel
theorem dX9_link_17 : decode cX9_link 17 = .ok (.iload_n 3, 1) := by decide +kernel
theorem dX9_link_18 : decode cX9_link 18 = .ok (.ifCond .eq 15, 3) := by decide +kernel
theorem dX9_link_21 : decode cX9_link 21 = .ok (.aload_n 0, 1) := by decide +kernel
theorem dX9_link_22 : decode cX9_link 22 = .ok (.getfield 68, 3) := by decide +kernel
theorem dX9_link_25 : decode cX9_link 25 = .ok (.iconst 5, 1) := by decide +kernel
theorem dX9_link_26 : decode cX9_link 26 = .ok (.dup2, 1) := by decide +kernel
theorem dX9_link_27 : decode cX9_link 27 = .ok (.iaload, 1) := by decide +kernel
theorem dX9_link_28 : decode cX9_link 28 = .ok (.iconst 1, 1) := by decide +kernel
theorem dX9_link_29 : decode cX9_link 29 = .ok (.iadd, 1) := by decide +kernel
theorem dX9_link_30 : decode cX9_link 30 = .ok (.iastore, 1) := by decide +kernel
theorem dX9_link_31 : decode cX9_link 31 = .ok (.iload_n 3, 1) := by decide +kernel
theorem dX9_link_32 : decode cX9_link 32 = .ok (.ireturn, 1) := by decide +kernel
theorem dX9_link_33 : decode cX9_link 33 = .ok (.aload_n 0, 1) := by decide +kernel
theorem dX9_link_34 : decode cX9_link 34 = .ok (.getfield 64, 3) := by decide +kernel
theorem dX9_link_37 : decode cX9_link 37 = .ok (.aload_n 0, 1) := by decide +kernel
theorem dX9_link_38 : decode cX9_link 38 = .ok (.getfield 26, 3) := by decide +kernel
theorem dX9_link_41 : decode cX9_link 41 = .ok (.invokevirtual 302, 3) := by decide +kernel
theorem dX9_link_44 : decode cX9_link 44 = .ok (.pop, 1) := by decide +kernel
theorem dX9_link_45 : decode cX9_link 45 = .ok (.aload_n 0, 1) := by decide +kernel
theorem dX9_link_46 : decode cX9_link 46 = .ok (.getfield 26, 3) := by decide +kernel
theorem dX9_link_49 : decode cX9_link 49 = .ok (.iload_n 1, 1) := by decide +kernel
theorem dX9_link_50 : decode cX9_link 50 = .ok (.iload_n 2, 1) := by decide +kernel
theorem dX9_link_51 : decode cX9_link 51 = .ok (.invokevirtual 306, 3) := by decide +kernel
theorem dX9_link_54 : decode cX9_link 54 = .ok (.aload_n 0, 1) := by decide +kernel
theorem dX9_link_55 : decode cX9_link 55 = .ok (.getfield 68, 3) := by decide +kernel
theorem dX9_link_58 : decode cX9_link 58 = .ok (.iconst 0, 1) := by decide +kernel
theorem dX9_link_59 : decode cX9_link 59 = .ok (.dup2, 1) := by decide +kernel
theorem dX9_link_60 : decode cX9_link 60 = .ok (.iaload, 1) := by decide +kernel
theorem dX9_link_61 : decode cX9_link 61 = .ok (.iconst 1, 1) := by decide +kernel
theorem dX9_link_62 : decode cX9_link 62 = .ok (.iadd, 1) := by decide +kernel
theorem dX9_link_63 : decode cX9_link 63 = .ok (.iastore, 1) := by decide +kernel
theorem dX9_link_64 : decode cX9_link 64 = .ok (.iconst 0, 1) := by decide +kernel
theorem dX9_link_65 : decode cX9_link 65 = .ok (.ireturn, 1) := by decide +kernel
theorem dX9_cut_0 : decode cX9_cut 0 = .ok (.aload_n 0, 1) := by decide +kernel
theorem dX9_cut_1 : decode cX9_cut 1 = .ok (.iload_n 1, 1) := by decide +kernel
theorem dX9_cut_2 : decode cX9_cut 2 = .ok (.invokevirtual 146, 3) := by decide +kernel
theorem dX9_cut_5 : decode cX9_cut 5 = .ok (.aload_n 0, 1) := by decide +kernel
theorem dX9_cut_6 : decode cX9_cut 6 = .ok (.iload_n 2, 1) := by decide +kernel
theorem dX9_cut_7 : decode cX9_cut 7 = .ok (.invokevirtual 146, 3) := by decide +kernel
theorem dX9_cut_10 : decode cX9_cut 10 = .ok (.aload_n 0, 1) := by decide +kernel
theorem dX9_cut_11 : decode cX9_cut 11 = .ok (.getfield 26, 3) := by decide +kernel
theorem dX9_cut_14 : decode cX9_cut 14 = .ok (.iload_n 1, 1) := by decide +kernel
theorem dX9_cut_15 : decode cX9_cut 15 = .ok (.iload_n 2, 1) := by decide +kernel
theorem dX9_cut_16 : decode cX9_cut 16 = .ok (.invokevirtual 263, 3) := by decide +kernel
theorem dX9_cut_19 : decode cX9_cut 19 = .ok (.ifCond .ne 16, 3) := by decide +kernel
theorem dX9_cut_22 : decode cX9_cut 22 = .ok (.aload_n 0, 1) := by decide +kernel
theorem dX9_cut_23 : decode cX9_cut 23 = .ok (.getfield 68, 3) := by decide +kernel
theorem dX9_cut_26 : decode cX9_cut 26 = .ok (.bipush 6, 2) := by decide +kernel
theorem dX9_cut_28 : decode cX9_cut 28 = .ok (.dup2, 1) := by decide +kernel
theorem dX9_cut_29 : decode cX9_cut 29 = .ok (.iaload, 1) := by decide +kernel
theorem dX9_cut_30 : decode cX9_cut 30 = .ok (.iconst 1, 1) := by decide +kernel
theorem dX9_cut_31 : decode cX9_cut 31 = .ok (.iadd, 1) := by decide +kernel
theorem dX9_cut_32 : decode cX9_cut 32 = .ok (.iastore, 1) := by decide +kernel
theorem dX9_cut_33 : decode cX9_cut 33 = .ok (.iconst 0, 1) := by decide +kernel
theorem dX9_cut_34 : decode cX9_cut 34 = .ok (.ireturn, 1) := by decide +kernel
theorem dX9_cut_35 : decode cX9_cut 35 = .ok (.aload_n 0, 1) := by decide +kernel
theorem dX9_cut_36 : decode cX9_cut 36 = .ok (.getfield 64, 3) := by decide +kernel
theorem dX9_cut_39 : decode cX9_cut 39 = .ok (.aload_n 0, 1) := by decide +kernel
theorem dX9_cut_40 : decode cX9_cut 40 = .ok (.getfield 26, 3) := by decide +kernel
theorem dX9_cut_43 : decode cX9_cut 43 = .ok (.invokevirtual 302, 3) := by decide +kernel
theorem dX9_cut_46 : decode cX9_cut 46 = .ok (.pop, 1) := by decide +kernel
theorem dX9_cut_47 : decode cX9_cut 47 = .ok (.aload_n 0, 1) := by decide +kernel
theorem dX9_cut_48 : decode cX9_cut 48 = .ok (.getfield 26, 3) := by decide +kernel
theorem dX9_cut_51 : decode cX9_cut 51 = .ok (.iload_n 1, 1) := by decide +kernel
theorem dX9_cut_52 : decode cX9_cut 52 = .ok (.iload_n 2, 1) := by decide +kernel
theorem dX9_cut_53 : decode cX9_cut 53 = .ok (.invokevirtual 310, 3) := by decide +kernel
theorem dX9_cut_56 : decode cX9_cut 56 = .ok (.aload_n 0, 1) := by decide +kernel
theorem dX9_cut_57 : decode cX9_cut 57 = .ok (.getfield 68, 3) := by decide +kernel
theorem dX9_cut_60 : decode cX9_cut 60 = .ok (.iconst 1, 1) := by decide +kernel
theorem dX9_cut_61 : decode cX9_cut 61 = .ok (.dup2, 1) := by decide +kernel
theorem dX9_cut_62 : decode cX9_cut 62 = .ok (.iaload, 1) := by decide +kernel
theorem dX9_cut_63 : decode cX9_cut 63 = .ok (.iconst 1, 1) := by decide +kernel
theorem dX9_cut_64 : decode cX9_cut 64 = .ok (.iadd, 1) := by decide +kernel
theorem dX9_cut_65 : decode cX9_cut 65 = .ok (.iastore, 1) := by decide +kernel
theorem dX9_cut_66 : decode cX9_cut 66 = .ok (.iconst 1, 1) := by decide +kernel
theorem dX9_cut_67 : decode cX9_cut 67 = .ok (.ireturn, 1) := by decide +kernel
theorem dX9_regraft_0 : decode cX9_regraft 0 = .ok (.aload_n 0, 1) := by decide +kernel
theorem dX9_regraft_1 : decode cX9_regraft 1 = .ok (.iload_n 1, 1) := by decide +kernel
theorem dX9_regraft_2 : decode cX9_regraft 2 = .ok (.invokevirtual 146, 3) := by decide +kernel
theorem dX9_regraft_5 : decode cX9_regraft 5 = .ok (.aload_n 0, 1) := by decide +kernel
theorem dX9_regraft_6 : decode cX9_regraft 6 = .ok (.iload_n 2, 1) := by decide +kernel
theorem dX9_regraft_7 : decode cX9_regraft 7 = .ok (.invokevirtual 146, 3) := by decide +kernel
theorem dX9_regraft_10 : decode cX9_regraft 10 = .ok (.aload_n 0, 1) := by decide +kernel
theorem dX9_regraft_11 : decode cX9_regraft 11 = .ok (.iload_n 3, 1) := by decide +kernel
theorem dX9_regraft_12 : decode cX9_regraft 12 = .ok (.invokevirtual 146, 3) := by decide +kernel
theorem dX9_regraft_15 : decode cX9_regraft 15 = .ok (.aload_n 0, 1) := by decide +kernel
theorem dX9_regraft_16 : decode cX9_regraft 16 = .ok (.iload_n 1, 1) := by decide +kernel
theorem dX9_regraft_17 : decode cX9_regraft 17 = .ok (.iload_n 2, 1) := by decide +kernel
theorem dX9_regraft_18 : decode cX9_regraft 18 = .ok (.iload_n 3, 1) := by decide +kernel
theorem dX9_regraft_19 : decode cX9_regraft 19 = .ok (.invokevirtual 313, 3) := by decide +kernel
theorem dX9_regraft_22 : decode cX9_regraft 22 = .ok (.istore 4, 2) := by decide +kernel
theorem dX9_regraft_24 : decode cX9_regraft 24 = .ok (.iload 4, 2) := by decide +kernel
theorem dX9_regraft_26 : decode cX9_regraft 26 = .ok (.ifCond .eq 17, 3) := by decide +kernel
theorem dX9_regraft_29 : decode cX9_regraft 29 = .ok (.aload_n 0, 1) := by decide +kernel
theorem dX9_regraft_30 : decode cX9_regraft 30 = .ok (.getfield 68, 3) := by decide +kernel
theorem dX9_regraft_33 : decode cX9_regraft 33 = .ok (.bipush 7, 2) := by decide +kernel
theorem dX9_regraft_35 : decode cX9_regraft 35 = .ok (.dup2, 1) := by decide +kernel
theorem dX9_regraft_36 : decode cX9_regraft 36 = .ok (.iaload, 1) := by decide +kernel
theorem dX9_regraft_37 : decode cX9_regraft 37 = .ok (.iconst 1, 1) := by decide +kernel
theorem dX9_regraft_38 : decode cX9_regraft 38 = .ok (.iadd, 1) := by decide +kernel
theorem dX9_regraft_39 : decode cX9_regraft 39 = .ok (.iastore, 1) := by decide +kernel
theorem dX9_regraft_40 : decode cX9_regraft 40 = .ok (.iload 4, 2) := by decide +kernel
theorem dX9_regraft_42 : decode cX9_regraft 42 = .ok (.ireturn, 1) := by decide +kernel
theorem dX9_regraft_43 : decode cX9_regraft 43 = .ok (.aload_n 0, 1) := by decide +kernel
theorem dX9_regraft_44 : decode cX9_regraft 44 = .ok (.getfield 64, 3) := by decide +kernel
theorem dX9_regraft_47 : decode cX9_regraft 47 = .ok (.aload_n 0, 1) := by decide +kernel
theorem dX9_regraft_48 : decode cX9_regraft 48 = .ok (.getfield 26, 3) := by decide +kernel
theorem dX9_regraft_51 : decode cX9_regraft 51 = .ok (.invokevirtual 302, 3) := by decide +kernel
theorem dX9_regraft_54 : decode cX9_regraft 54 = .ok (.pop, 1) := by decide +kernel
theorem dX9_regraft_55 : decode cX9_regraft 55 = .ok (.aload_n 0, 1) := by decide +kernel
theorem dX9_regraft_56 : decode cX9_regraft 56 = .ok (.getfield 26, 3) := by decide +kernel
theorem dX9_regraft_59 : decode cX9_regraft 59 = .ok (.iload_n 1, 1) := by decide +kernel
theorem dX9_regraft_60 : decode cX9_regraft 60 = .ok (.iload_n 2, 1) := by decide +kernel
theorem dX9_regraft_61 : decode cX9_regraft 61 = .ok (.invokevirtual 310, 3) := by decide +kernel
theorem dX9_regraft_64 : decode cX9_regraft 64 = .ok (.aload_n 0, 1) := by decide +kernel
theorem dX9_regraft_65 : decode cX9_regraft 65 = .ok (.getfield 26, 3) := by decide +kernel
theorem dX9_regraft_68 : decode cX9_regraft 68 = .ok (.iload_n 1, 1) := by decide +kernel
theorem dX9_regraft_69 : decode cX9_regraft 69 = .ok (.iload_n 3, 1) := by decide +kernel
theorem dX9_regraft_70 : decode cX9_regraft 70 = .ok (.invokevirtual 306, 3) := by decide +kernel
theorem dX9_regraft_73 : decode cX9_regraft 73 = .ok (.aload_n 0, 1) := by decide +kernel
theorem dX9_regraft_74 : decode cX9_regraft 74 = .ok (.getfield 68, 3) := by decide +kernel
theorem dX9_regraft_77 : decode cX9_regraft 77 = .ok (.iconst 2, 1) := by decide +kernel
theorem dX9_regraft_78 : decode cX9_regraft 78 = .ok (.dup2, 1) := by decide +kernel
theorem dX9_regraft_79 : decode cX9_regraft 79 = .ok (.iaload, 1) := by decide +kernel
theorem dX9_regraft_80 : decode cX9_regraft 80 = .ok (.iconst 1, 1) := by decide +kernel
theorem dX9_regraft_81 : decode cX9_regraft 81 = .ok (.iadd, 1) := by decide +kernel
theorem dX9_regraft_82 : decode cX9_regraft 82 = .ok (.iastore, 1) := by decide +kernel
theorem dX9_regraft_83 : decode cX9_regraft 83 = .ok (.iconst 0, 1) := by decide +kernel
theorem dX9_regraft_84 : decode cX9_regraft 84 = .ok (.ireturn, 1) := by decide +kernel
theorem dX9_prune_0 : decode cX9_prune 0 = .ok (.iload_n 1, 1) := by decide +kernel
theorem dX9_prune_1 : decode cX9_prune 1 = .ok (.iconst 1, 1) := by decide +kernel
theorem dX9_prune_2 : decode cX9_prune 2 = .ok (.if_icmp .lt 9, 3) := by decide +kernel
theorem dX9_prune_5 : decode cX9_prune 5 = .ok (.iload_n 1, 1) := by decide +kernel
theorem dX9_prune_6 : decode cX9_prune 6 = .ok (.bipush 9, 2) := by decide +kernel
theorem dX9_prune_8 : decode cX9_prune 8 = .ok (.if_icmp .le 14, 3) := by decide +kernel
theorem dX9_prune_11 : decode cX9_prune 11 = .ok (.new 178, 3) := by decide +kernel
theorem dX9_prune_14 : decode cX9_prune 14 = .ok (.dup, 1) := by decide +kernel
theorem dX9_prune_15 : decode cX9_prune 15 = .ok (.ldc_w 316, 3) := by decide +kernel
theorem dX9_prune_18 : decode cX9_prune 18 = .ok (.invokespecial 182, 3) := by decide +kernel
theorem dX9_prune_21 : decode cX9_prune 21 = .ok (.athrow, 1) := by decide +kernel
theorem dX9_prune_22 : decode cX9_prune 22 = .ok (.aload_n 0, 1) := by decide +kernel
theorem dX9_prune_23 : decode cX9_prune 23 = .ok (.getfield 64, 3) := by decide +kernel
theorem dX9_prune_26 : decode cX9_prune 26 = .ok (.aload_n 0, 1) := by decide +kernel
theorem dX9_prune_27 : decode cX9_prune 27 = .ok (.getfield 26, 3) := by decide +kernel
theorem dX9_prune_30 : decode cX9_prune 30 = .ok (.invokevirtual 302, 3) := by decide +kernel
theorem dX9_prune_33 : decode cX9_prune 33 = .ok (.pop, 1) := by decide +kernel
theorem dX9_prune_34 : decode cX9_prune 34 = .ok (.aload_n 0, 1) := by decide +kernel
theorem dX9_prune_35 : decode cX9_prune 35 = .ok (.getfield 26, 3) := by decide +kernel
theorem dX9_prune_38 : decode cX9_prune 38 = .ok (.invokevirtual 107, 3) := by decide +kernel
theorem dX9_prune_41 : decode cX9_prune 41 = .ok (.istore_n 2, 1) := by decide +kernel
theorem dX9_prune_42 : decode cX9_prune 42 = .ok (.iconst 0, 1) := by decide +kernel
theorem dX9_prune_43 : decode cX9_prune 43 = .ok (.istore_n 3, 1) := by decide +kernel
theorem dX9_prune_44 : decode cX9_prune 44 = .ok (.iload_n 3, 1) := by decide +kernel
theorem dX9_prune_45 : decode cX9_prune 45 = .ok (.iload_n 1, 1) := by decide +kernel
theorem dX9_prune_46 : decode cX9_prune 46 = .ok (.if_icmp .ge 16, 3) := by decide +kernel
theorem dX9_prune_49 : decode cX9_prune 49 = .ok (.aload_n 0, 1) := by decide +kernel
theorem dX9_prune_50 : decode cX9_prune 50 = .ok (.getfield 26, 3) := by decide +kernel
theorem dX9_prune_53 : decode cX9_prune 53 = .ok (.invokevirtual 318, 3) := by decide +kernel
theorem dX9_prune_56 : decode cX9_prune 56 = .ok (.iinc 3 1, 3) := by decide +kernel
theorem dX9_prune_59 : decode cX9_prune 59 = .ok (.goto (-15), 3) := by decide +kernel
theorem dX9_prune_62 : decode cX9_prune 62 = .ok (.aload_n 0, 1) := by decide +kernel
theorem dX9_prune_63 : decode cX9_prune 63 = .ok (.getfield 68, 3) := by decide +kernel
theorem dX9_prune_66 : decode cX9_prune 66 = .ok (.iconst 3, 1) := by decide +kernel
theorem dX9_prune_67 : decode cX9_prune 67 = .ok (.dup2, 1) := by decide +kernel
theorem dX9_prune_68 : decode cX9_prune 68 = .ok (.iaload, 1) := by decide +kernel
theorem dX9_prune_69 : decode cX9_prune 69 = .ok (.iload_n 1, 1) := by decide +kernel
theorem dX9_prune_70 : decode cX9_prune 70 = .ok (.iadd, 1) := by decide +kernel
theorem dX9_prune_71 : decode cX9_prune 71 = .ok (.iastore, 1) := by decide +kernel
theorem dX9_prune_72 : decode cX9_prune 72 = .ok (.iload_n 2, 1) := by decide +kernel
theorem dX9_prune_73 : decode cX9_prune 73 = .ok (.aload_n 0, 1) := by decide +kernel
theorem dX9_prune_74 : decode cX9_prune 74 = .ok (.getfield 26, 3) := by decide +kernel
theorem dX9_prune_77 : decode cX9_prune 77 = .ok (.invokevirtual 107, 3) := by decide +kernel
theorem dX9_prune_80 : decode cX9_prune 80 = .ok (.isub, 1) := by decide +kernel
theorem dX9_prune_81 : decode cX9_prune 81 = .ok (.ireturn, 1) := by decide +kernel
theorem dX9_swap_0 : decode cX9_swap 0 = .ok (.aload_n 0, 1) := by decide +kernel
theorem dX9_swap_1 : decode cX9_swap 1 = .ok (.iload_n 1, 1) := by decide +kernel
theorem dX9_swap_2 : decode cX9_swap 2 = .ok (.invokevirtual 146, 3) := by decide +kernel
theorem dX9_swap_5 : decode cX9_swap 5 = .ok (.aload_n 0, 1) := by decide +kernel
theorem dX9_swap_6 : decode cX9_swap 6 = .ok (.iload_n 2, 1) := by decide +kernel
theorem dX9_swap_7 : decode cX9_swap 7 = .ok (.invokevirtual 146, 3) := by decide +kernel
theorem dX9_swap_10 : decode cX9_swap 10 = .ok (.aload_n 0, 1) := by decide +kernel
theorem dX9_swap_11 : decode cX9_swap 11 = .ok (.getfield 64, 3) := by decide +kernel
theorem dX9_swap_14 : decode cX9_swap 14 = .ok (.aload_n 0, 1) := by decide +kernel
theorem dX9_swap_15 : decode cX9_swap 15 = .ok (.getfield 26, 3) := by decide +kernel
theorem dX9_swap_18 : decode cX9_swap 18 = .ok (.invokevirtual 302, 3) := by decide +kernel
theorem dX9_swap_21 : decode cX9_swap 21 = .ok (.astore_n 3, 1) := by decide +kernel
theorem dX9_swap_22 : decode cX9_swap 22 = .ok (.aload_n 0, 1) := by decide +kernel
theorem dX9_swap_23 : decode cX9_swap 23 = .ok (.getfield 26, 3) := by decide +kernel
theorem dX9_swap_26 : decode cX9_swap 26 = .ok (.iload_n 1, 1) := by decide +kernel
theorem dX9_swap_27 : decode cX9_swap 27 = .ok (.iload_n 2, 1) := by decide +kernel
theorem dX9_swap_28 : decode cX9_swap 28 = .ok (.invokevirtual 321, 3) := by decide +kernel
theorem dX9_swap_31 : decode cX9_swap 31 = .ok (.aload_n 0, 1) := by decide +kernel
theorem dX9_swap_32 : decode cX9_swap 32 = .ok (.getfield 26, 3) := by decide +kernel
theorem dX9_swap_35 : decode cX9_swap 35 = .ok (.aload_n 3, 1) := by decide +kernel
theorem dX9_swap_36 : decode cX9_swap 36 = .ok (.invokevirtual 324, 3) := by decide +kernel
theorem dX9_swap_39 : decode cX9_swap 39 = .ok (.ireturn, 1) := by decide +kernel
theorem dX9_setWeight_0 : decode cX9_setWeight 0 = .ok (.aload_n 0, 1) := by decide +kernel
theorem dX9_setWeight_1 : decode cX9_setWeight 1 = .ok (.iload_n 1, 1) := by decide +kernel
theorem dX9_setWeight_2 : decode cX9_setWeight 2 = .ok (.invokevirtual 146, 3) := by decide +kernel
theorem dX9_setWeight_5 : decode cX9_setWeight 5 = .ok (.iload_n 2, 1) := by decide +kernel
theorem dX9_setWeight_6 : decode cX9_setWeight 6 = .ok (.ifCond .lt 9, 3) := by decide +kernel
theorem dX9_setWeight_9 : decode cX9_setWeight 9 = .ok (.iload_n 2, 1) := by decide +kernel
theorem dX9_setWeight_10 : decode cX9_setWeight 10 = .ok (.bipush 99, 2) := by decide +kernel
theorem dX9_setWeight_12 : decode cX9_setWeight 12 = .ok (.if_icmp .le 14, 3) := by decide +kernel
theorem dX9_setWeight_15 : decode cX9_setWeight 15 = .ok (.new 178, 3) := by decide +kernel
theorem dX9_setWeight_18 : decode cX9_setWeight 18 = .ok (.dup, 1) := by decide +kernel
theorem dX9_setWeight_19 : decode cX9_setWeight 19 = .ok (.ldc_w 328, 3) := by decide +kernel
theorem dX9_setWeight_22 : decode cX9_setWeight 22 = .ok (.invokespecial 182, 3) := by decide +kernel
theorem dX9_setWeight_25 : decode cX9_setWeight 25 = .ok (.athrow, 1) := by decide +kernel
theorem dX9_setWeight_26 : decode cX9_setWeight 26 = .ok (.aload_n 0, 1) := by decide +kernel
theorem dX9_setWeight_27 : decode cX9_setWeight 27 = .ok (.getfield 64, 3) := by decide +kernel
theorem dX9_setWeight_30 : decode cX9_setWeight 30 = .ok (.aload_n 0, 1) := by decide +kernel
theorem dX9_setWeight_31 : decode cX9_setWeight 31 = .ok (.getfield 26, 3) := by decide +kernel
theorem dX9_setWeight_34 : decode cX9_setWeight 34 = .ok (.invokevirtual 302, 3) := by decide +kernel
theorem dX9_setWeight_37 : decode cX9_setWeight 37 = .ok (.pop, 1) := by decide +kernel
theorem dX9_setWeight_38 : decode cX9_setWeight 38 = .ok (.aload_n 0, 1) := by decide +kernel
theorem dX9_setWeight_39 : decode cX9_setWeight 39 = .ok (.getfield 26, 3) := by decide +kernel
theorem dX9_setWeight_42 : decode cX9_setWeight 42 = .ok (.iload_n 1, 1) := by decide +kernel
theorem dX9_setWeight_43 : decode cX9_setWeight 43 = .ok (.invokevirtual 152, 3) := by decide +kernel
theorem dX9_setWeight_46 : decode cX9_setWeight 46 = .ok (.istore_n 3, 1) := by decide +kernel
theorem dX9_setWeight_47 : decode cX9_setWeight 47 = .ok (.aload_n 0, 1) := by decide +kernel
theorem dX9_setWeight_48 : decode cX9_setWeight 48 = .ok (.getfield 26, 3) := by decide +kernel
theorem dX9_setWeight_51 : decode cX9_setWeight 51 = .ok (.iload_n 1, 1) := by decide +kernel
theorem dX9_setWeight_52 : decode cX9_setWeight 52 = .ok (.iload_n 2, 1) := by decide +kernel
theorem dX9_setWeight_53 : decode cX9_setWeight 53 = .ok (.invokevirtual 330, 3) := by decide +kernel
theorem dX9_setWeight_56 : decode cX9_setWeight 56 = .ok (.iload_n 3, 1) := by decide +kernel
theorem dX9_setWeight_57 : decode cX9_setWeight 57 = .ok (.ireturn, 1) := by decide +kernel
theorem dX9_fromRank_0 : decode cX9_fromRank 0 = .ok (.iload_n 1, 1) := by decide +kernel
theorem dX9_fromRank_1 : decode cX9_fromRank 1 = .ok (.ifCond .lt 17, 3) := by decide +kernel
theorem dX9_fromRank_4 : decode cX9_fromRank 4 = .ok (.iload_n 1, 1) := by decide +kernel
theorem dX9_fromRank_5 : decode cX9_fromRank 5 = .ok (.aload_n 0, 1) := by decide +kernel
theorem dX9_fromRank_6 : decode cX9_fromRank 6 = .ok (.getfield 26, 3) := by decide +kernel
theorem dX9_fromRank_9 : decode cX9_fromRank 9 = .ok (.getfield 110, 3) := by decide +kernel
theorem dX9_fromRank_12 : decode cX9_fromRank 12 = .ok (.invokestatic 333, 3) := by decide +kernel
theorem dX9_fromRank_15 : decode cX9_fromRank 15 = .ok (.if_icmp .lt 14, 3) := by decide +kernel
theorem dX9_fromRank_18 : decode cX9_fromRank 18 = .ok (.new 178, 3) := by decide +kernel
theorem dX9_fromRank_21 : decode cX9_fromRank 21 = .ok (.dup, 1) := by decide +kernel
theorem dX9_fromRank_22 : decode cX9_fromRank 22 = .ok (.ldc_w 336, 3) := by decide +kernel
theorem dX9_fromRank_25 : decode cX9_fromRank 25 = .ok (.invokespecial 182, 3) := by decide +kernel
theorem dX9_fromRank_28 : decode cX9_fromRank 28 = .ok (.athrow, 1) := by decide +kernel
theorem dX9_fromRank_29 : decode cX9_fromRank 29 = .ok (.aload_n 0, 1) := by decide +kernel
theorem dX9_fromRank_30 : decode cX9_fromRank 30 = .ok (.iload_n 1, 1) := by decide +kernel
theorem dX9_fromRank_31 : decode cX9_fromRank 31 = .ok (.invokevirtual 338, 3) := by decide +kernel
theorem dX9_fromRank_34 : decode cX9_fromRank 34 = .ok (.ireturn, 1) := by decide +kernel
theorem dX9_nextTree_0 : decode cX9_nextTree 0 = .ok (.aload_n 0, 1) := by decide +kernel
theorem dX9_nextTree_1 : decode cX9_nextTree 1 = .ok (.getfield 26, 3) := by decide +kernel
theorem dX9_nextTree_4 : decode cX9_nextTree 4 = .ok (.invokevirtual 113, 3) := by decide +kernel
theorem dX9_nextTree_7 : decode cX9_nextTree 7 = .ok (.iconst 1, 1) := by decide +kernel
theorem dX9_nextTree_8 : decode cX9_nextTree 8 = .ok (.if_icmp .ne 19, 3) := by decide +kernel
theorem dX9_nextTree_11 : decode cX9_nextTree 11 = .ok (.aload_n 0, 1) := by decide +kernel
theorem dX9_nextTree_12 : decode cX9_nextTree 12 = .ok (.getfield 36, 3) := by decide +kernel
theorem dX9_nextTree_15 : decode cX9_nextTree 15 = .ok (.aload_n 0, 1) := by decide +kernel
theorem dX9_nextTree_16 : decode cX9_nextTree 16 = .ok (.getfield 26, 3) := by decide +kernel
theorem dX9_nextTree_19 : decode cX9_nextTree 19 = .ok (.invokevirtual 238, 3) := by decide +kernel
theorem dX9_nextTree_22 : decode cX9_nextTree 22 = .ok (.iconst 1, 1) := by decide +kernel
theorem dX9_nextTree_23 : decode cX9_nextTree 23 = .ok (.iadd, 1) := by decide +kernel
theorem dX9_nextTree_24 : decode cX9_nextTree 24 = .ok (.goto 13, 3) := by decide +kernel
theorem dX9_nextTree_27 : decode cX9_nextTree 27 = .ok (.aload_n 0, 1) := by decide +kernel
theorem dX9_nextTree_28 : decode cX9_nextTree 28 = .ok (.getfield 26, 3) := by decide +kernel
theorem dX9_nextTree_31 : decode cX9_nextTree 31 = .ok (.getfield 110, 3) := by decide +kernel
theorem dX9_nextTree_34 : decode cX9_nextTree 34 = .ok (.invokestatic 333, 3) := by decide +kernel
theorem dX9_nextTree_37 : decode cX9_nextTree 37 = .ok (.istore_n 1, 1) := by decide +kernel
theorem dX9_nextTree_38 : decode cX9_nextTree 38 = .ok (.iload_n 1, 1) := by decide +kernel
theorem dX9_nextTree_39 : decode cX9_nextTree 39 = .ok (.aload_n 0, 1) := by decide +kernel
theorem dX9_nextTree_40 : decode cX9_nextTree 40 = .ok (.getfield 26, 3) := by decide +kernel
theorem dX9_nextTree_43 : decode cX9_nextTree 43 = .ok (.getfield 110, 3) := by decide +kernel
theorem dX9_nextTree_46 : decode cX9_nextTree 46 = .ok (.invokestatic 333, 3) := by decide +kernel
theorem dX9_nextTree_49 : decode cX9_nextTree 49 = .ok (.if_icmp .lt 16, 3) := by decide +kernel
theorem dX9_nextTree_52 : decode cX9_nextTree 52 = .ok (.aload_n 0, 1) := by decide +kernel
theorem dX9_nextTree_53 : decode cX9_nextTree 53 = .ok (.getfield 68, 3) := by decide +kernel
theorem dX9_nextTree_56 : decode cX9_nextTree 56 = .ok (.bipush 8, 2) := by decide +kernel
theorem dX9_nextTree_58 : decode cX9_nextTree 58 = .ok (.dup2, 1) := by decide +kernel
theorem dX9_nextTree_59 : decode cX9_nextTree 59 = .ok (.iaload, 1) := by decide +kernel
theorem dX9_nextTree_60 : decode cX9_nextTree 60 = .ok (.iconst 1, 1) := by decide +kernel
theorem dX9_nextTree_61 : decode cX9_nextTree 61 = .ok (.iadd, 1) := by decide +kernel
theorem dX9_nextTree_62 : decode cX9_nextTree 62 = .ok (.iastore, 1) := by decide +kernel
theorem dX9_nextTree_63 : decode cX9_nextTree 63 = .ok (.iconst (-1), 1) := by decide +kernel
theorem dX9_nextTree_64 : decode cX9_nextTree 64 = .ok (.ireturn, 1) := by decide +kernel
theorem dX9_nextTree_65 : decode cX9_nextTree 65 = .ok (.aload_n 0, 1) := by decide +kernel
theorem dX9_nextTree_66 : decode cX9_nextTree 66 = .ok (.iload_n 1, 1) := by decide +kernel
theorem dX9_nextTree_67 : decode cX9_nextTree 67 = .ok (.invokevirtual 338, 3) := by decide +kernel
theorem dX9_nextTree_70 : decode cX9_nextTree 70 = .ok (.pop, 1) := by decide +kernel
theorem dX9_nextTree_71 : decode cX9_nextTree 71 = .ok (.iload_n 1, 1) := by decide +kernel
theorem dX9_nextTree_72 : decode cX9_nextTree 72 = .ok (.ireturn, 1) := by decide +kernel
theorem dX9_keep_0 : decode cX9_keep 0 = .ok (.iload_n 1, 1) := by decide +kernel
theorem dX9_keep_1 : decode cX9_keep 1 = .ok (.invokestatic 341, 3) := by decide +kernel
theorem dX9_keep_4 : decode cX9_keep 4 = .ok (.aload_n 0, 1) := by decide +kernel
theorem dX9_keep_5 : decode cX9_keep 5 = .ok (.getfield 64, 3) := by decide +kernel
theorem dX9_keep_8 : decode cX9_keep 8 = .ok (.iload_n 1, 1) := by decide +kernel
theorem dX9_keep_9 : decode cX9_keep 9 = .ok (.invokevirtual 344, 3) := by decide +kernel
theorem dX9_keep_12 : decode cX9_keep 12 = .ok (.istore_n 2, 1) := by decide +kernel
theorem dX9_keep_13 : decode cX9_keep 13 = .ok (.aload_n 0, 1) := by decide +kernel
theorem dX9_keep_14 : decode cX9_keep 14 = .ok (.getfield 64, 3) := by decide +kernel
theorem dX9_keep_17 : decode cX9_keep 17 = .ok (.iload_n 1, 1) := by decide +kernel
theorem dX9_keep_18 : decode cX9_keep 18 = .ok (.aload_n 0, 1) := by decide +kernel
theorem dX9_keep_19 : decode cX9_keep 19 = .ok (.getfield 26, 3) := by decide +kernel
theorem dX9_keep_22 : decode cX9_keep 22 = .ok (.invokevirtual 347, 3) := by decide +kernel
theorem dX9_keep_25 : decode cX9_keep 25 = .ok (.iload_n 2, 1) := by decide +kernel
theorem dX9_keep_26 : decode cX9_keep 26 = .ok (.ireturn, 1) := by decide +kernel
theorem dX9_restore_0 : decode cX9_restore 0 = .ok (.iload_n 1, 1) := by decide +kernel
theorem dX9_restore_1 : decode cX9_restore 1 = .ok (.invokestatic 341, 3) := by decide +kernel
theorem dX9_restore_4 : decode cX9_restore 4 = .ok (.aload_n 0, 1) := by decide +kernel
theorem dX9_restore_5 : decode cX9_restore 5 = .ok (.getfield 64, 3) := by decide +kernel
theorem dX9_restore_8 : decode cX9_restore 8 = .ok (.iload_n 1, 1) := by decide +kernel
theorem dX9_restore_9 : decode cX9_restore 9 = .ok (.invokevirtual 344, 3) := by decide +kernel
theorem dX9_restore_12 : decode cX9_restore 12 = .ok (.ifCond .ne 16, 3) := by decide +kernel
theorem dX9_restore_15 : decode cX9_restore 15 = .ok (.aload_n 0, 1) := by decide +kernel
theorem dX9_restore_16 : decode cX9_restore 16 = .ok (.getfield 68, 3) := by decide +kernel
theorem dX9_restore_19 : decode cX9_restore 19 = .ok (.bipush 9, 2) := by decide +kernel
theorem dX9_restore_21 : decode cX9_restore 21 = .ok (.dup2, 1) := by decide +kernel
theorem dX9_restore_22 : decode cX9_restore 22 = .ok (.iaload, 1) := by decide +kernel
theorem dX9_restore_23 : decode cX9_restore 23 = .ok (.iconst 1, 1) := by decide +kernel
theorem dX9_restore_24 : decode cX9_restore 24 = .ok (.iadd, 1) := by decide +kernel
theorem dX9_restore_25 : decode cX9_restore 25 = .ok (.iastore, 1) := by decide +kernel
theorem dX9_restore_26 : decode cX9_restore 26 = .ok (.iconst 0, 1) := by decide +kernel
theorem dX9_restore_27 : decode cX9_restore 27 = .ok (.ireturn, 1) := by decide +kernel
theorem dX9_restore_28 : decode cX9_restore 28 = .ok (.aload_n 0, 1) := by decide +kernel
theorem dX9_restore_29 : decode cX9_restore 29 = .ok (.getfield 64, 3) := by decide +kernel
theorem dX9_restore_32 : decode cX9_restore 32 = .ok (.aload_n 0, 1) := by decide +kernel
theorem dX9_restore_33 : decode cX9_restore 33 = .ok (.getfield 26, 3) := by decide +kernel
theorem dX9_restore_36 : decode cX9_restore 36 = .ok (.invokevirtual 302, 3) := by decide +kernel
theorem dX9_restore_39 : decode cX9_restore 39 = .ok (.pop, 1) := by decide +kernel
theorem dX9_restore_40 : decode cX9_restore 40 = .ok (.aload_n 0, 1) := by decide +kernel
theorem dX9_restore_41 : decode cX9_restore 41 = .ok (.getfield 64, 3) := by decide +kernel
theorem dX9_restore_44 : decode cX9_restore 44 = .ok (.iload_n 1, 1) := by decide +kernel
theorem dX9_restore_45 : decode cX9_restore 45 = .ok (.aload_n 0, 1) := by decide +kernel
theorem dX9_restore_46 : decode cX9_restore 46 = .ok (.getfield 26, 3) := by decide +kernel
theorem dX9_restore_49 : decode cX9_restore 49 = .ok (.invokevirtual 351, 3) := by decide +kernel
theorem dX9_restore_52 : decode cX9_restore 52 = .ok (.iconst 1, 1) := by decide +kernel
theorem dX9_restore_53 : decode cX9_restore 53 = .ok (.ireturn, 1) := by decide +kernel
theorem dX9_undo_0 : decode cX9_undo 0 = .ok (.aload_n 0, 1) := by decide +kernel
theorem dX9_undo_1 : decode cX9_undo 1 = .ok (.getfield 64, 3) := by decide +kernel
theorem dX9_undo_4 : decode cX9_undo 4 = .ok (.aload_n 0, 1) := by decide +kernel
theorem dX9_undo_5 : decode cX9_undo 5 = .ok (.getfield 26, 3) := by decide +kernel
theorem dX9_undo_8 : decode cX9_undo 8 = .ok (.invokevirtual 354, 3) := by decide +kernel
theorem dX9_undo_11 : decode cX9_undo 11 = .ok (.ifCond .eq 13, 3) := by decide +kernel
theorem dX9_undo_14 : decode cX9_undo 14 = .ok (.aload_n 0, 1) := by decide +kernel
theorem dX9_undo_15 : decode cX9_undo 15 = .ok (.getfield 64, 3) := by decide +kernel
theorem dX9_undo_18 : decode cX9_undo 18 = .ok (.getfield 143, 3) := by decide +kernel
theorem dX9_undo_21 : decode cX9_undo 21 = .ok (.goto 4, 3) := by decide +kernel
theorem dX9_undo_24 : decode cX9_undo 24 = .ok (.iconst (-1), 1) := by decide +kernel
theorem dX9_undo_25 : decode cX9_undo 25 = .ok (.ireturn, 1) := by decide +kernel
theorem dX9_account_0 : decode cX9_account 0 = .ok (.iload_n 1, 1) := by decide +kernel
theorem dX9_account_1 : decode cX9_account 1 = .ok (.ifCond .lt 9, 3) := by decide +kernel
theorem dX9_account_4 : decode cX9_account 4 = .ok (.iload_n 1, 1) := by decide +kernel
theorem dX9_account_5 : decode cX9_account 5 = .ok (.bipush 10, 2) := by decide +kernel
theorem dX9_account_7 : decode cX9_account 7 = .ok (.if_icmp .lt 14, 3) := by decide +kernel
theorem dX9_account_10 : decode cX9_account 10 = .ok (.new 178, 3) := by decide +kernel
theorem dX9_account_13 : decode cX9_account 13 = .ok (.dup, 1) := by decide +kernel
theorem dX9_account_14 : decode cX9_account 14 = .ok (.ldc_w 358, 3) := by decide +kernel
theorem dX9_account_17 : decode cX9_account 17 = .ok (.invokespecial 182, 3) := by decide +kernel
theorem dX9_account_20 : decode cX9_account 20 = .ok (.athrow, 1) := by decide +kernel
theorem dX9_account_21 : decode cX9_account 21 = .ok (.aload_n 0, 1) := by decide +kernel
theorem dX9_account_22 : decode cX9_account 22 = .ok (.getfield 68, 3) := by decide +kernel
theorem dX9_account_25 : decode cX9_account 25 = .ok (.iload_n 1, 1) := by decide +kernel
theorem dX9_account_26 : decode cX9_account 26 = .ok (.iaload, 1) := by decide +kernel
theorem dX9_account_27 : decode cX9_account 27 = .ok (.ireturn, 1) := by decide +kernel
theorem dX9_needVertex_0 : decode cX9_needVertex 0 = .ok (.aload_n 0, 1) := by decide +kernel
theorem dX9_needVertex_1 : decode cX9_needVertex 1 = .ok (.getfield 26, 3) := by decide +kernel
theorem dX9_needVertex_4 : decode cX9_needVertex 4 = .ok (.iload_n 1, 1) := by decide +kernel
theorem dX9_needVertex_5 : decode cX9_needVertex 5 = .ok (.invokevirtual 360, 3) := by decide +kernel
theorem dX9_needVertex_8 : decode cX9_needVertex 8 = .ok (.ifCond .ne 14, 3) := by decide +kernel
theorem dX9_needVertex_11 : decode cX9_needVertex 11 = .ok (.new 363, 3) := by decide +kernel
theorem dX9_needVertex_14 : decode cX9_needVertex 14 = .ok (.dup, 1) := by decide +kernel
theorem dX9_needVertex_15 : decode cX9_needVertex 15 = .ok (.ldc_w 365, 3) := by decide +kernel
theorem dX9_needVertex_18 : decode cX9_needVertex 18 = .ok (.invokespecial 367, 3) := by decide +kernel
theorem dX9_needVertex_21 : decode cX9_needVertex 21 = .ok (.athrow, 1) := by decide +kernel
theorem dX9_needVertex_22 : decode cX9_needVertex 22 = .ok (.return_, 1) := by decide +kernel
theorem dX9_neededComponent_0 : decode cX9_neededComponent 0 = .ok (.aload_n 0, 1) := by decide +kernel
theorem dX9_neededComponent_1 : decode cX9_neededComponent 1 = .ok (.getfield 26, 3) := by decide +kernel
theorem dX9_neededComponent_4 : decode cX9_neededComponent 4 = .ok (.iload_n 1, 1) := by decide +kernel
theorem dX9_neededComponent_5 : decode cX9_neededComponent 5 = .ok (.invokevirtual 368, 3) := by decide +kernel
theorem dX9_neededComponent_8 : decode cX9_neededComponent 8 = .ok (.istore_n 2, 1) := by decide +kernel
theorem dX9_neededComponent_9 : decode cX9_neededComponent 9 = .ok (.iload_n 2, 1) := by decide +kernel
theorem dX9_neededComponent_10 : decode cX9_neededComponent 10 = .ok (.ifCond .ne 14, 3) := by decide +kernel
theorem dX9_neededComponent_13 : decode cX9_neededComponent 13 = .ok (.new 363, 3) := by decide +kernel
theorem dX9_neededComponent_16 : decode cX9_neededComponent 16 = .ok (.dup, 1) := by decide +kernel
theorem dX9_neededComponent_17 : decode cX9_neededComponent 17 = .ok (.ldc_w 371, 3) := by decide +kernel
theorem dX9_neededComponent_20 : decode cX9_neededComponent 20 = .ok (.invokespecial 367, 3) := by decide +kernel
theorem dX9_neededComponent_23 : decode cX9_neededComponent 23 = .ok (.athrow, 1) := by decide +kernel
theorem dX9_neededComponent_24 : decode cX9_neededComponent 24 = .ok (.iload_n 2, 1) := by decide +kernel
theorem dX9_neededComponent_25 : decode cX9_neededComponent 25 = .ok (.ireturn, 1) := by decide +kernel
theorem dX9_needTree_0 : decode cX9_needTree 0 = .ok (.aload_n 0, 1) := by decide +kernel
theorem dX9_needTree_1 : decode cX9_needTree 1 = .ok (.getfield 26, 3) := by decide +kernel
theorem dX9_needTree_4 : decode cX9_needTree 4 = .ok (.invokevirtual 113, 3) := by decide +kernel
theorem dX9_needTree_7 : decode cX9_needTree 7 = .ok (.iconst 1, 1) := by decide +kernel
theorem dX9_needTree_8 : decode cX9_needTree 8 = .ok (.if_icmp .eq 14, 3) := by decide +kernel
theorem dX9_needTree_11 : decode cX9_needTree 11 = .ok (.new 373, 3) := by decide +kernel
theorem dX9_needTree_14 : decode cX9_needTree 14 = .ok (.dup, 1) := by decide +kernel
theorem dX9_needTree_15 : decode cX9_needTree 15 = .ok (.ldc_w 375, 3) := by decide +kernel
theorem dX9_needTree_18 : decode cX9_needTree 18 = .ok (.invokespecial 377, 3) := by decide +kernel
theorem dX9_needTree_21 : decode cX9_needTree 21 = .ok (.athrow, 1) := by decide +kernel
theorem dX9_needTree_22 : decode cX9_needTree 22 = .ok (.return_, 1) := by decide +kernel
theorem dX9_needSnapshot_0 : decode cX9_needSnapshot 0 = .ok (.iload_n 0, 1) := by decide +kernel
theorem dX9_needSnapshot_1 : decode cX9_needSnapshot 1 = .ok (.ifCond .lt 8, 3) := by decide +kernel
theorem dX9_needSnapshot_4 : decode cX9_needSnapshot 4 = .ok (.iload_n 0, 1) := by decide +kernel
theorem dX9_needSnapshot_5 : decode cX9_needSnapshot 5 = .ok (.iconst 3, 1) := by decide +kernel
theorem dX9_needSnapshot_6 : decode cX9_needSnapshot 6 = .ok (.if_icmp .lt 14, 3) := by decide +kernel
theorem dX9_needSnapshot_9 : decode cX9_needSnapshot 9 = .ok (.new 178, 3) := by decide +kernel
theorem dX9_needSnapshot_12 : decode cX9_needSnapshot 12 = .ok (.dup, 1) := by decide +kernel
theorem dX9_needSnapshot_13 : decode cX9_needSnapshot 13 = .ok (.ldc_w 378, 3) := by decide +kernel
theorem dX9_needSnapshot_16 : decode cX9_needSnapshot 16 = .ok (.invokespecial 182, 3) := by decide +kernel
theorem dX9_needSnapshot_19 : decode cX9_needSnapshot 19 = .ok (.athrow, 1) := by decide +kernel
theorem dX9_needSnapshot_20 : decode cX9_needSnapshot 20 = .ok (.return_, 1) := by decide +kernel
theorem dX9_reasonAgainstLink_0 : decode cX9_reasonAgainstLink 0 = .ok (.iload_n 1, 1) := by decide +kernel
theorem dX9_reasonAgainstLink_1 : decode cX9_reasonAgainstLink 1 = .ok (.iload_n 2, 1) := by decide +kernel
theorem dX9_reasonAgainstLink_2 : decode cX9_reasonAgainstLink 2 = .ok (.if_icmp .ne 5, 3) := by decide +kernel
theorem dX9_reasonAgainstLink_5 : decode cX9_reasonAgainstLink 5 = .ok (.iconst 1, 1) := by decide +kernel
theorem dX9_reasonAgainstLink_6 : decode cX9_reasonAgainstLink 6 = .ok (.ireturn, 1) := by decide +kernel
theorem dX9_reasonAgainstLink_7 : decode cX9_reasonAgainstLink 7 = .ok (.aload_n 0, 1) := by decide +kernel
theorem dX9_reasonAgainstLink_8 : decode cX9_reasonAgainstLink 8 = .ok (.getfield 26, 3) := by decide +kernel
theorem dX9_reasonAgainstLink_11 : decode cX9_reasonAgainstLink 11 = .ok (.iload_n 1, 1) := by decide +kernel
theorem dX9_reasonAgainstLink_12 : decode cX9_reasonAgainstLink 12 = .ok (.iload_n 2, 1) := by decide +kernel
theorem dX9_reasonAgainstLink_13 : decode cX9_reasonAgainstLink 13 = .ok (.invokevirtual 263, 3) := by decide +kernel
theorem dX9_reasonAgainstLink_16 : decode cX9_reasonAgainstLink 16 = .ok (.ifCond .eq 5, 3) := by decide +kernel
theorem dX9_reasonAgainstLink_19 : decode cX9_reasonAgainstLink 19 = .ok (.iconst 2, 1) := by decide +kernel
theorem dX9_reasonAgainstLink_20 : decode cX9_reasonAgainstLink 20 = .ok (.ireturn, 1) := by decide +kernel
theorem dX9_reasonAgainstLink_21 : decode cX9_reasonAgainstLink 21 = .ok (.aload_n 0, 1) := by decide +kernel
theorem dX9_reasonAgainstLink_22 : decode cX9_reasonAgainstLink 22 = .ok (.getfield 26, 3) := by decide +kernel
theorem dX9_reasonAgainstLink_25 : decode cX9_reasonAgainstLink 25 = .ok (.iload_n 1, 1) := by decide +kernel
theorem dX9_reasonAgainstLink_26 : decode cX9_reasonAgainstLink 26 = .ok (.iload_n 2, 1) := by decide +kernel
theorem dX9_reasonAgainstLink_27 : decode cX9_reasonAgainstLink 27 = .ok (.invokevirtual 196, 3) := by decide +kernel
theorem dX9_reasonAgainstLink_30 : decode cX9_reasonAgainstLink 30 = .ok (.iconst (-1), 1) := by decide +kernel
theorem dX9_reasonAgainstLink_31 : decode cX9_reasonAgainstLink 31 = .ok (.if_icmp .ne 7, 3) := by decide +kernel
theorem dX9_reasonAgainstLink_34 : decode cX9_reasonAgainstLink 34 = .ok (.iconst 0, 1) := by decide +kernel
theorem dX9_reasonAgainstLink_35 : decode cX9_reasonAgainstLink 35 = .ok (.goto 4, 3) := by decide +kernel
theorem dX9_reasonAgainstLink_38 : decode cX9_reasonAgainstLink 38 = .ok (.iconst 3, 1) := by decide +kernel
theorem dX9_reasonAgainstLink_39 : decode cX9_reasonAgainstLink 39 = .ok (.ireturn, 1) := by decide +kernel
theorem dX9_reasonAgainstRegraft_0 : decode cX9_reasonAgainstRegraft 0 = .ok (.aload_n 0, 1) := by decide +kernel
theorem dX9_reasonAgainstRegraft_1 : decode cX9_reasonAgainstRegraft 1 = .ok (.getfield 26, 3) := by decide +kernel
theorem dX9_reasonAgainstRegraft_4 : decode cX9_reasonAgainstRegraft 4 = .ok (.iload_n 1, 1) := by decide +kernel
theorem dX9_reasonAgainstRegraft_5 : decode cX9_reasonAgainstRegraft 5 = .ok (.iload_n 2, 1) := by decide +kernel
theorem dX9_reasonAgainstRegraft_6 : decode cX9_reasonAgainstRegraft 6 = .ok (.invokevirtual 263, 3) := by decide +kernel
theorem dX9_reasonAgainstRegraft_9 : decode cX9_reasonAgainstRegraft 9 = .ok (.ifCond .ne 5, 3) := by decide +kernel
theorem dX9_reasonAgainstRegraft_12 : decode cX9_reasonAgainstRegraft 12 = .ok (.iconst 1, 1) := by decide +kernel
theorem dX9_reasonAgainstRegraft_13 : decode cX9_reasonAgainstRegraft 13 = .ok (.ireturn, 1) := by decide +kernel
theorem dX9_reasonAgainstRegraft_14 : decode cX9_reasonAgainstRegraft 14 = .ok (.aload_n 0, 1) := by decide +kernel
theorem dX9_reasonAgainstRegraft_15 : decode cX9_reasonAgainstRegraft 15 = .ok (.getfield 26, 3) := by decide +kernel
theorem dX9_reasonAgainstRegraft_18 : decode cX9_reasonAgainstRegraft 18 = .ok (.iload_n 1, 1) := by decide +kernel
theorem dX9_reasonAgainstRegraft_19 : decode cX9_reasonAgainstRegraft 19 = .ok (.aload_n 0, 1) := by decide +kernel
theorem dX9_reasonAgainstRegraft_20 : decode cX9_reasonAgainstRegraft 20 = .ok (.getfield 26, 3) := by decide +kernel
theorem dX9_reasonAgainstRegraft_23 : decode cX9_reasonAgainstRegraft 23 = .ok (.invokevirtual 116, 3) := by decide +kernel
theorem dX9_reasonAgainstRegraft_26 : decode cX9_reasonAgainstRegraft 26 = .ok (.iload_n 2, 1) := by decide +kernel
theorem dX9_reasonAgainstRegraft_27 : decode cX9_reasonAgainstRegraft 27 = .ok (.invokestatic 380, 3) := by decide +kernel
theorem dX9_reasonAgainstRegraft_30 : decode cX9_reasonAgainstRegraft 30 = .ok (.invokevirtual 383, 3) := by decide +kernel
theorem dX9_reasonAgainstRegraft_33 : decode cX9_reasonAgainstRegraft 33 = .ok (.iload_n 3, 1) := by decide +kernel
theorem dX9_reasonAgainstRegraft_34 : decode cX9_reasonAgainstRegraft 34 = .ok (.invokestatic 216, 3) := by decide +kernel
theorem dX9_reasonAgainstRegraft_37 : decode cX9_reasonAgainstRegraft 37 = .ok (.ifCond .eq 7, 3) := by decide +kernel
theorem dX9_reasonAgainstRegraft_40 : decode cX9_reasonAgainstRegraft 40 = .ok (.iconst 2, 1) := by decide +kernel
theorem dX9_reasonAgainstRegraft_41 : decode cX9_reasonAgainstRegraft 41 = .ok (.goto 4, 3) := by decide +kernel
theorem dX9_reasonAgainstRegraft_44 : decode cX9_reasonAgainstRegraft 44 = .ok (.iconst 0, 1) := by decide +kernel
theorem dX9_reasonAgainstRegraft_45 : decode cX9_reasonAgainstRegraft 45 = .ok (.ireturn, 1) := by decide +kernel
theorem dX9_becomeTree_0 : decode cX9_becomeTree 0 = .ok (.aload_n 0, 1) := by decide +kernel
theorem dX9_becomeTree_1 : decode cX9_becomeTree 1 = .ok (.getfield 64, 3) := by decide +kernel
theorem dX9_becomeTree_4 : decode cX9_becomeTree 4 = .ok (.aload_n 0, 1) := by decide +kernel
theorem dX9_becomeTree_5 : decode cX9_becomeTree 5 = .ok (.getfield 26, 3) := by decide +kernel
theorem dX9_becomeTree_8 : decode cX9_becomeTree 8 = .ok (.invokevirtual 302, 3) := by decide +kernel
theorem dX9_becomeTree_11 : decode cX9_becomeTree 11 = .ok (.astore_n 2, 1) := by decide +kernel
theorem dX9_becomeTree_12 : decode cX9_becomeTree 12 = .ok (.aload_n 0, 1) := by decide +kernel
theorem dX9_becomeTree_13 : decode cX9_becomeTree 13 = .ok (.getfield 36, 3) := by decide +kernel
theorem dX9_becomeTree_16 : decode cX9_becomeTree 16 = .ok (.aload_n 0, 1) := by decide +kernel
theorem dX9_becomeTree_17 : decode cX9_becomeTree 17 = .ok (.getfield 26, 3) := by decide +kernel
theorem dX9_becomeTree_20 : decode cX9_becomeTree 20 = .ok (.getfield 110, 3) := by decide +kernel
theorem dX9_becomeTree_23 : decode cX9_becomeTree 23 = .ok (.iload_n 1, 1) := by decide +kernel
theorem dX9_becomeTree_24 : decode cX9_becomeTree 24 = .ok (.invokevirtual 386, 3) := by decide +kernel
theorem dX9_becomeTree_27 : decode cX9_becomeTree 27 = .ok (.aload_n 0, 1) := by decide +kernel
theorem dX9_becomeTree_28 : decode cX9_becomeTree 28 = .ok (.getfield 36, 3) := by decide +kernel
theorem dX9_becomeTree_31 : decode cX9_becomeTree 31 = .ok (.aload_n 0, 1) := by decide +kernel
theorem dX9_becomeTree_32 : decode cX9_becomeTree 32 = .ok (.getfield 26, 3) := by decide +kernel
theorem dX9_becomeTree_35 : decode cX9_becomeTree 35 = .ok (.invokevirtual 389, 3) := by decide +kernel
theorem dX9_becomeTree_38 : decode cX9_becomeTree 38 = .ok (.aload_n 0, 1) := by decide +kernel
theorem dX9_becomeTree_39 : decode cX9_becomeTree 39 = .ok (.getfield 68, 3) := by decide +kernel
theorem dX9_becomeTree_42 : decode cX9_becomeTree 42 = .ok (.iconst 4, 1) := by decide +kernel
theorem dX9_becomeTree_43 : decode cX9_becomeTree 43 = .ok (.dup2, 1) := by decide +kernel
theorem dX9_becomeTree_44 : decode cX9_becomeTree 44 = .ok (.iaload, 1) := by decide +kernel
theorem dX9_becomeTree_45 : decode cX9_becomeTree 45 = .ok (.iconst 1, 1) := by decide +kernel
theorem dX9_becomeTree_46 : decode cX9_becomeTree 46 = .ok (.iadd, 1) := by decide +kernel
theorem dX9_becomeTree_47 : decode cX9_becomeTree 47 = .ok (.iastore, 1) := by decide +kernel
theorem dX9_becomeTree_48 : decode cX9_becomeTree 48 = .ok (.aload_n 0, 1) := by decide +kernel
theorem dX9_becomeTree_49 : decode cX9_becomeTree 49 = .ok (.getfield 26, 3) := by decide +kernel
theorem dX9_becomeTree_52 : decode cX9_becomeTree 52 = .ok (.aload_n 2, 1) := by decide +kernel
theorem dX9_becomeTree_53 : decode cX9_becomeTree 53 = .ok (.invokevirtual 324, 3) := by decide +kernel
theorem dX9_becomeTree_56 : decode cX9_becomeTree 56 = .ok (.ireturn, 1) := by decide +kernel
theorem dX9_roundOf_0 : decode cX9_roundOf 0 = .ok (.aload_n 0, 1) := by decide +kernel
theorem dX9_roundOf_1 : decode cX9_roundOf 1 = .ok (.getfield 30, 3) := by decide +kernel
theorem dX9_roundOf_4 : decode cX9_roundOf 4 = .ok (.aload_n 0, 1) := by decide +kernel
theorem dX9_roundOf_5 : decode cX9_roundOf 5 = .ok (.getfield 26, 3) := by decide +kernel
theorem dX9_roundOf_8 : decode cX9_roundOf 8 = .ok (.invokevirtual 94, 3) := by decide +kernel
theorem dX9_roundOf_11 : decode cX9_roundOf 11 = .ok (.iconst 0, 1) := by decide +kernel
theorem dX9_roundOf_12 : decode cX9_roundOf 12 = .ok (.istore_n 2, 1) := by decide +kernel
theorem dX9_roundOf_13 : decode cX9_roundOf 13 = .ok (.iload_n 2, 1) := by decide +kernel
theorem dX9_roundOf_14 : decode cX9_roundOf 14 = .ok (.bipush 10, 2) := by decide +kernel
theorem dX9_roundOf_16 : decode cX9_roundOf 16 = .ok (.if_icmp .ge 27, 3) := by decide +kernel
theorem dX9_roundOf_19 : decode cX9_roundOf 19 = .ok (.aload_n 0, 1) := by decide +kernel
theorem dX9_roundOf_20 : decode cX9_roundOf 20 = .ok (.getfield 30, 3) := by decide +kernel
theorem dX9_roundOf_23 : decode cX9_roundOf 23 = .ok (.iload_n 1, 1) := by decide +kernel
theorem dX9_roundOf_24 : decode cX9_roundOf 24 = .ok (.invokevirtual 149, 3) := by decide +kernel
theorem dX9_roundOf_27 : decode cX9_roundOf 27 = .ok (.ifCond .eq 16, 3) := by decide +kernel
theorem dX9_roundOf_30 : decode cX9_roundOf 30 = .ok (.aload_n 0, 1) := by decide +kernel
theorem dX9_roundOf_31 : decode cX9_roundOf 31 = .ok (.getfield 30, 3) := by decide +kernel
theorem dX9_roundOf_34 : decode cX9_roundOf 34 = .ok (.invokevirtual 318, 3) := by decide +kernel
theorem dX9_roundOf_37 : decode cX9_roundOf 37 = .ok (.iinc 2 1, 3) := by decide +kernel
theorem dX9_roundOf_40 : decode cX9_roundOf 40 = .ok (.goto (-27), 3) := by decide +kernel
theorem dX9_roundOf_43 : decode cX9_roundOf 43 = .ok (.iload_n 2, 1) := by decide +kernel
theorem dX9_roundOf_44 : decode cX9_roundOf 44 = .ok (.ireturn, 1) := by decide +kernel
theorem dX9_holds_0 : decode cX9_holds 0 = .ok (.iload_n 0, 1) := by decide +kernel
theorem dX9_holds_1 : decode cX9_holds 1 = .ok (.iload_n 1, 1) := by decide +kernel
theorem dX9_holds_2 : decode cX9_holds 2 = .ok (.ishr, 1) := by decide +kernel
theorem dX9_holds_3 : decode cX9_holds 3 = .ok (.iconst 1, 1) := by decide +kernel
theorem dX9_holds_4 : decode cX9_holds 4 = .ok (.iand, 1) := by decide +kernel
theorem dX9_holds_5 : decode cX9_holds 5 = .ok (.ifCond .eq 7, 3) := by decide +kernel
theorem dX9_holds_8 : decode cX9_holds 8 = .ok (.iconst 1, 1) := by decide +kernel
theorem dX9_holds_9 : decode cX9_holds 9 = .ok (.goto 4, 3) := by decide +kernel
theorem dX9_holds_12 : decode cX9_holds 12 = .ok (.iconst 0, 1) := by decide +kernel
theorem dX9_holds_13 : decode cX9_holds 13 = .ok (.ireturn, 1) := by decide +kernel
theorem dX9_without_0 : decode cX9_without 0 = .ok (.iload_n 0, 1) := by decide +kernel
theorem dX9_without_1 : decode cX9_without 1 = .ok (.iconst 1, 1) := by decide +kernel
theorem dX9_without_2 : decode cX9_without 2 = .ok (.iload_n 1, 1) := by decide +kernel
theorem dX9_without_3 : decode cX9_without 3 = .ok (.ishl, 1) := by decide +kernel
theorem dX9_without_4 : decode cX9_without 4 = .ok (.iconst (-1), 1) := by decide +kernel
theorem dX9_without_5 : decode cX9_without 5 = .ok (.ixor, 1) := by decide +kernel
theorem dX9_without_6 : decode cX9_without 6 = .ok (.iand, 1) := by decide +kernel
theorem dX9_without_7 : decode cX9_without 7 = .ok (.ireturn, 1) := by decide +kernel
theorem dX9_lowest_0 : decode cX9_lowest 0 = .ok (.iconst 0, 1) := by decide +kernel
theorem dX9_lowest_1 : decode cX9_lowest 1 = .ok (.istore_n 1, 1) := by decide +kernel
theorem dX9_lowest_2 : decode cX9_lowest 2 = .ok (.iload_n 1, 1) := by decide +kernel
theorem dX9_lowest_3 : decode cX9_lowest 3 = .ok (.bipush 10, 2) := by decide +kernel
theorem dX9_lowest_5 : decode cX9_lowest 5 = .ok (.if_icmp .ge 19, 3) := by decide +kernel
theorem dX9_lowest_8 : decode cX9_lowest 8 = .ok (.iload_n 0, 1) := by decide +kernel
theorem dX9_lowest_9 : decode cX9_lowest 9 = .ok (.iload_n 1, 1) := by decide +kernel
theorem dX9_lowest_10 : decode cX9_lowest 10 = .ok (.invokestatic 216, 3) := by decide +kernel
theorem dX9_lowest_13 : decode cX9_lowest 13 = .ok (.ifCond .eq 5, 3) := by decide +kernel
theorem dX9_lowest_16 : decode cX9_lowest 16 = .ok (.iload_n 1, 1) := by decide +kernel
theorem dX9_lowest_17 : decode cX9_lowest 17 = .ok (.ireturn, 1) := by decide +kernel
theorem dX9_lowest_18 : decode cX9_lowest 18 = .ok (.iinc 1 1, 3) := by decide +kernel
theorem dX9_lowest_21 : decode cX9_lowest 21 = .ok (.goto (-19), 3) := by decide +kernel
theorem dX9_lowest_24 : decode cX9_lowest 24 = .ok (.iconst (-1), 1) := by decide +kernel
theorem dX9_lowest_25 : decode cX9_lowest 25 = .ok (.ireturn, 1) := by decide +kernel
theorem dX9_factorial_0 : decode cX9_factorial 0 = .ok (.iconst 1, 1) := by decide +kernel
theorem dX9_factorial_1 : decode cX9_factorial 1 = .ok (.istore_n 1, 1) := by decide +kernel
theorem dX9_factorial_2 : decode cX9_factorial 2 = .ok (.iconst 2, 1) := by decide +kernel
theorem dX9_factorial_3 : decode cX9_factorial 3 = .ok (.istore_n 2, 1) := by decide +kernel
theorem dX9_factorial_4 : decode cX9_factorial 4 = .ok (.iload_n 2, 1) := by decide +kernel
theorem dX9_factorial_5 : decode cX9_factorial 5 = .ok (.iload_n 0, 1) := by decide +kernel
theorem dX9_factorial_6 : decode cX9_factorial 6 = .ok (.if_icmp .gt 13, 3) := by decide +kernel
theorem dX9_factorial_9 : decode cX9_factorial 9 = .ok (.iload_n 1, 1) := by decide +kernel
theorem dX9_factorial_10 : decode cX9_factorial 10 = .ok (.iload_n 2, 1) := by decide +kernel
theorem dX9_factorial_11 : decode cX9_factorial 11 = .ok (.imul, 1) := by decide +kernel
theorem dX9_factorial_12 : decode cX9_factorial 12 = .ok (.istore_n 1, 1) := by decide +kernel
theorem dX9_factorial_13 : decode cX9_factorial 13 = .ok (.iinc 2 1, 3) := by decide +kernel
theorem dX9_factorial_16 : decode cX9_factorial 16 = .ok (.goto (-12), 3) := by decide +kernel
theorem dX9_factorial_19 : decode cX9_factorial 19 = .ok (.iload_n 1, 1) := by decide +kernel
theorem dX9_factorial_20 : decode cX9_factorial 20 = .ok (.ireturn, 1) := by decide +kernel
theorem dX9_quotient_0 : decode cX9_quotient 0 = .ok (.iload_n 1, 1) := by decide +kernel
theorem dX9_quotient_1 : decode cX9_quotient 1 = .ok (.ifCond .ne 7, 3) := by decide +kernel
theorem dX9_quotient_4 : decode cX9_quotient 4 = .ok (.iconst 0, 1) := by decide +kernel
theorem dX9_quotient_5 : decode cX9_quotient 5 = .ok (.goto 6, 3) := by decide +kernel
theorem dX9_quotient_8 : decode cX9_quotient 8 = .ok (.iload_n 0, 1) := by decide +kernel
theorem dX9_quotient_9 : decode cX9_quotient 9 = .ok (.iload_n 1, 1) := by decide +kernel
theorem dX9_quotient_10 : decode cX9_quotient 10 = .ok (.idiv, 1) := by decide +kernel
theorem dX9_quotient_11 : decode cX9_quotient 11 = .ok (.ireturn, 1) := by decide +kernel
theorem dX9_codeLength_0 : decode cX9_codeLength 0 = .ok (.iload_n 0, 1) := by decide +kernel
theorem dX9_codeLength_1 : decode cX9_codeLength 1 = .ok (.iconst 2, 1) := by decide +kernel
theorem dX9_codeLength_2 : decode cX9_codeLength 2 = .ok (.isub, 1) := by decide +kernel
theorem dX9_codeLength_3 : decode cX9_codeLength 3 = .ok (.iconst 0, 1) := by decide +kernel
theorem dX9_codeLength_4 : decode cX9_codeLength 4 = .ok (.invokestatic 392, 3) := by decide +kernel
theorem dX9_codeLength_7 : decode cX9_codeLength 7 = .ok (.ireturn, 1) := by decide +kernel
theorem dX9_treesWith_0 : decode cX9_treesWith 0 = .ok (.iconst 1, 1) := by decide +kernel
theorem dX9_treesWith_1 : decode cX9_treesWith 1 = .ok (.istore_n 1, 1) := by decide +kernel
theorem dX9_treesWith_2 : decode cX9_treesWith 2 = .ok (.iconst 0, 1) := by decide +kernel
theorem dX9_treesWith_3 : decode cX9_treesWith 3 = .ok (.istore_n 2, 1) := by decide +kernel
theorem dX9_treesWith_4 : decode cX9_treesWith 4 = .ok (.iload_n 2, 1) := by decide +kernel
theorem dX9_treesWith_5 : decode cX9_treesWith 5 = .ok (.iload_n 0, 1) := by decide +kernel
theorem dX9_treesWith_6 : decode cX9_treesWith 6 = .ok (.invokestatic 227, 3) := by decide +kernel
theorem dX9_treesWith_9 : decode cX9_treesWith 9 = .ok (.if_icmp .ge 13, 3) := by decide +kernel
theorem dX9_treesWith_12 : decode cX9_treesWith 12 = .ok (.iload_n 1, 1) := by decide +kernel
theorem dX9_treesWith_13 : decode cX9_treesWith 13 = .ok (.iload_n 0, 1) := by decide +kernel
theorem dX9_treesWith_14 : decode cX9_treesWith 14 = .ok (.imul, 1) := by decide +kernel
theorem dX9_treesWith_15 : decode cX9_treesWith 15 = .ok (.istore_n 1, 1) := by decide +kernel
theorem dX9_treesWith_16 : decode cX9_treesWith 16 = .ok (.iinc 2 1, 3) := by decide +kernel
theorem dX9_treesWith_19 : decode cX9_treesWith 19 = .ok (.goto (-15), 3) := by decide +kernel
theorem dX9_treesWith_22 : decode cX9_treesWith 22 = .ok (.iload_n 1, 1) := by decide +kernel
theorem dX9_treesWith_23 : decode cX9_treesWith 23 = .ok (.ireturn, 1) := by decide +kernel
theorem dJ6_numberOfTrailingZeros_0f7a4_0 : decode cJ6_numberOfTrailingZeros_0f7a4 0 = .ok (.iload_n 0, 1) := by decide +kernel
theorem dJ6_numberOfTrailingZeros_0f7a4_1 : decode cJ6_numberOfTrailingZeros_0f7a4 1 = .ok (.iconst (-1), 1) := by decide +kernel
theorem dJ6_numberOfTrailingZeros_0f7a4_2 : decode cJ6_numberOfTrailingZeros_0f7a4 2 = .ok (.ixor, 1) := by decide +kernel
theorem dJ6_numberOfTrailingZeros_0f7a4_3 : decode cJ6_numberOfTrailingZeros_0f7a4 3 = .ok (.iload_n 0, 1) := by decide +kernel
theorem dJ6_numberOfTrailingZeros_0f7a4_4 : decode cJ6_numberOfTrailingZeros_0f7a4 4 = .ok (.iconst 1, 1) := by decide +kernel
theorem dJ6_numberOfTrailingZeros_0f7a4_5 : decode cJ6_numberOfTrailingZeros_0f7a4 5 = .ok (.isub, 1) := by decide +kernel
theorem dJ6_numberOfTrailingZeros_0f7a4_6 : decode cJ6_numberOfTrailingZeros_0f7a4 6 = .ok (.iand, 1) := by decide +kernel
theorem dJ6_numberOfTrailingZeros_0f7a4_7 : decode cJ6_numberOfTrailingZeros_0f7a4 7 = .ok (.istore_n 0, 1) := by decide +kernel
theorem dJ6_numberOfTrailingZeros_0f7a4_8 : decode cJ6_numberOfTrailingZeros_0f7a4 8 = .ok (.iload_n 0, 1) := by decide +kernel
theorem dJ6_numberOfTrailingZeros_0f7a4_9 : decode cJ6_numberOfTrailingZeros_0f7a4 9 = .ok (.ifCond .gt 8, 3) := by decide +kernel
theorem dJ6_numberOfTrailingZeros_0f7a4_12 : decode cJ6_numberOfTrailingZeros_0f7a4 12 = .ok (.iload_n 0, 1) := by decide +kernel
theorem dJ6_numberOfTrailingZeros_0f7a4_13 : decode cJ6_numberOfTrailingZeros_0f7a4 13 = .ok (.bipush 32, 2) := by decide +kernel
theorem dJ6_numberOfTrailingZeros_0f7a4_15 : decode cJ6_numberOfTrailingZeros_0f7a4 15 = .ok (.iand, 1) := by decide +kernel
theorem dJ6_numberOfTrailingZeros_0f7a4_16 : decode cJ6_numberOfTrailingZeros_0f7a4 16 = .ok (.ireturn, 1) := by decide +kernel
theorem dJ6_numberOfTrailingZeros_0f7a4_17 : decode cJ6_numberOfTrailingZeros_0f7a4 17 = .ok (.iconst 1, 1) := by decide +kernel
theorem dJ6_numberOfTrailingZeros_0f7a4_18 : decode cJ6_numberOfTrailingZeros_0f7a4 18 = .ok (.istore_n 1, 1) := by decide +kernel
theorem dJ6_numberOfTrailingZeros_0f7a4_19 : decode cJ6_numberOfTrailingZeros_0f7a4 19 = .ok (.iload_n 0, 1) := by decide +kernel
theorem dJ6_numberOfTrailingZeros_0f7a4_20 : decode cJ6_numberOfTrailingZeros_0f7a4 20 = .ok (.ldc_w 264, 3) := by decide +kernel
theorem dJ6_numberOfTrailingZeros_0f7a4_23 : decode cJ6_numberOfTrailingZeros_0f7a4 23 = .ok (.if_icmp .le 11, 3) := by decide +kernel
theorem dJ6_numberOfTrailingZeros_0f7a4_26 : decode cJ6_numberOfTrailingZeros_0f7a4 26 = .ok (.iinc 1 16, 3) := by decide +kernel
theorem dJ6_numberOfTrailingZeros_0f7a4_29 : decode cJ6_numberOfTrailingZeros_0f7a4 29 = .ok (.iload_n 0, 1) := by decide +kernel
theorem dJ6_numberOfTrailingZeros_0f7a4_30 : decode cJ6_numberOfTrailingZeros_0f7a4 30 = .ok (.bipush 16, 2) := by decide +kernel
theorem dJ6_numberOfTrailingZeros_0f7a4_32 : decode cJ6_numberOfTrailingZeros_0f7a4 32 = .ok (.iushr, 1) := by decide +kernel
theorem dJ6_numberOfTrailingZeros_0f7a4_33 : decode cJ6_numberOfTrailingZeros_0f7a4 33 = .ok (.istore_n 0, 1) := by decide +kernel
theorem dJ6_numberOfTrailingZeros_0f7a4_34 : decode cJ6_numberOfTrailingZeros_0f7a4 34 = .ok (.iload_n 0, 1) := by decide +kernel
theorem dJ6_numberOfTrailingZeros_0f7a4_35 : decode cJ6_numberOfTrailingZeros_0f7a4 35 = .ok (.sipush 256, 3) := by decide +kernel
theorem dJ6_numberOfTrailingZeros_0f7a4_38 : decode cJ6_numberOfTrailingZeros_0f7a4 38 = .ok (.if_icmp .le 11, 3) := by decide +kernel
theorem dJ6_numberOfTrailingZeros_0f7a4_41 : decode cJ6_numberOfTrailingZeros_0f7a4 41 = .ok (.iinc 1 8, 3) := by decide +kernel
theorem dJ6_numberOfTrailingZeros_0f7a4_44 : decode cJ6_numberOfTrailingZeros_0f7a4 44 = .ok (.iload_n 0, 1) := by decide +kernel
theorem dJ6_numberOfTrailingZeros_0f7a4_45 : decode cJ6_numberOfTrailingZeros_0f7a4 45 = .ok (.bipush 8, 2) := by decide +kernel
theorem dJ6_numberOfTrailingZeros_0f7a4_47 : decode cJ6_numberOfTrailingZeros_0f7a4 47 = .ok (.iushr, 1) := by decide +kernel
theorem dJ6_numberOfTrailingZeros_0f7a4_48 : decode cJ6_numberOfTrailingZeros_0f7a4 48 = .ok (.istore_n 0, 1) := by decide +kernel
theorem dJ6_numberOfTrailingZeros_0f7a4_49 : decode cJ6_numberOfTrailingZeros_0f7a4 49 = .ok (.iload_n 0, 1) := by decide +kernel
theorem dJ6_numberOfTrailingZeros_0f7a4_50 : decode cJ6_numberOfTrailingZeros_0f7a4 50 = .ok (.bipush 16, 2) := by decide +kernel
theorem dJ6_numberOfTrailingZeros_0f7a4_52 : decode cJ6_numberOfTrailingZeros_0f7a4 52 = .ok (.if_icmp .le 10, 3) := by decide +kernel
theorem dJ6_numberOfTrailingZeros_0f7a4_55 : decode cJ6_numberOfTrailingZeros_0f7a4 55 = .ok (.iinc 1 4, 3) := by decide +kernel
theorem dJ6_numberOfTrailingZeros_0f7a4_58 : decode cJ6_numberOfTrailingZeros_0f7a4 58 = .ok (.iload_n 0, 1) := by decide +kernel
theorem dJ6_numberOfTrailingZeros_0f7a4_59 : decode cJ6_numberOfTrailingZeros_0f7a4 59 = .ok (.iconst 4, 1) := by decide +kernel
theorem dJ6_numberOfTrailingZeros_0f7a4_60 : decode cJ6_numberOfTrailingZeros_0f7a4 60 = .ok (.iushr, 1) := by decide +kernel
theorem dJ6_numberOfTrailingZeros_0f7a4_61 : decode cJ6_numberOfTrailingZeros_0f7a4 61 = .ok (.istore_n 0, 1) := by decide +kernel
theorem dJ6_numberOfTrailingZeros_0f7a4_62 : decode cJ6_numberOfTrailingZeros_0f7a4 62 = .ok (.iload_n 0, 1) := by decide +kernel
theorem dJ6_numberOfTrailingZeros_0f7a4_63 : decode cJ6_numberOfTrailingZeros_0f7a4 63 = .ok (.iconst 4, 1) := by decide +kernel
theorem dJ6_numberOfTrailingZeros_0f7a4_64 : decode cJ6_numberOfTrailingZeros_0f7a4 64 = .ok (.if_icmp .le 10, 3) := by decide +kernel
theorem dJ6_numberOfTrailingZeros_0f7a4_67 : decode cJ6_numberOfTrailingZeros_0f7a4 67 = .ok (.iinc 1 2, 3) := by decide +kernel
theorem dJ6_numberOfTrailingZeros_0f7a4_70 : decode cJ6_numberOfTrailingZeros_0f7a4 70 = .ok (.iload_n 0, 1) := by decide +kernel
theorem dJ6_numberOfTrailingZeros_0f7a4_71 : decode cJ6_numberOfTrailingZeros_0f7a4 71 = .ok (.iconst 2, 1) := by decide +kernel
theorem dJ6_numberOfTrailingZeros_0f7a4_72 : decode cJ6_numberOfTrailingZeros_0f7a4 72 = .ok (.iushr, 1) := by decide +kernel
theorem dJ6_numberOfTrailingZeros_0f7a4_73 : decode cJ6_numberOfTrailingZeros_0f7a4 73 = .ok (.istore_n 0, 1) := by decide +kernel
theorem dJ6_numberOfTrailingZeros_0f7a4_74 : decode cJ6_numberOfTrailingZeros_0f7a4 74 = .ok (.iload_n 1, 1) := by decide +kernel
theorem dJ6_numberOfTrailingZeros_0f7a4_75 : decode cJ6_numberOfTrailingZeros_0f7a4 75 = .ok (.iload_n 0, 1) := by decide +kernel
theorem dJ6_numberOfTrailingZeros_0f7a4_76 : decode cJ6_numberOfTrailingZeros_0f7a4 76 = .ok (.iconst 1, 1) := by decide +kernel
theorem dJ6_numberOfTrailingZeros_0f7a4_77 : decode cJ6_numberOfTrailingZeros_0f7a4 77 = .ok (.iushr, 1) := by decide +kernel
theorem dJ6_numberOfTrailingZeros_0f7a4_78 : decode cJ6_numberOfTrailingZeros_0f7a4 78 = .ok (.iadd, 1) := by decide +kernel
theorem dJ6_numberOfTrailingZeros_0f7a4_79 : decode cJ6_numberOfTrailingZeros_0f7a4 79 = .ok (.ireturn, 1) := by decide +kernel
theorem dJ6_bitCount_0f7a4_0 : decode cJ6_bitCount_0f7a4 0 = .ok (.iload_n 0, 1) := by decide +kernel
theorem dJ6_bitCount_0f7a4_1 : decode cJ6_bitCount_0f7a4 1 = .ok (.iload_n 0, 1) := by decide +kernel
theorem dJ6_bitCount_0f7a4_2 : decode cJ6_bitCount_0f7a4 2 = .ok (.iconst 1, 1) := by decide +kernel
theorem dJ6_bitCount_0f7a4_3 : decode cJ6_bitCount_0f7a4 3 = .ok (.iushr, 1) := by decide +kernel
theorem dJ6_bitCount_0f7a4_4 : decode cJ6_bitCount_0f7a4 4 = .ok (.ldc_w 265, 3) := by decide +kernel
theorem dJ6_bitCount_0f7a4_7 : decode cJ6_bitCount_0f7a4 7 = .ok (.iand, 1) := by decide +kernel
theorem dJ6_bitCount_0f7a4_8 : decode cJ6_bitCount_0f7a4 8 = .ok (.isub, 1) := by decide +kernel
theorem dJ6_bitCount_0f7a4_9 : decode cJ6_bitCount_0f7a4 9 = .ok (.istore_n 0, 1) := by decide +kernel
theorem dJ6_bitCount_0f7a4_10 : decode cJ6_bitCount_0f7a4 10 = .ok (.iload_n 0, 1) := by decide +kernel
theorem dJ6_bitCount_0f7a4_11 : decode cJ6_bitCount_0f7a4 11 = .ok (.ldc_w 266, 3) := by decide +kernel
theorem dJ6_bitCount_0f7a4_14 : decode cJ6_bitCount_0f7a4 14 = .ok (.iand, 1) := by decide +kernel
theorem dJ6_bitCount_0f7a4_15 : decode cJ6_bitCount_0f7a4 15 = .ok (.iload_n 0, 1) := by decide +kernel
theorem dJ6_bitCount_0f7a4_16 : decode cJ6_bitCount_0f7a4 16 = .ok (.iconst 2, 1) := by decide +kernel
theorem dJ6_bitCount_0f7a4_17 : decode cJ6_bitCount_0f7a4 17 = .ok (.iushr, 1) := by decide +kernel
theorem dJ6_bitCount_0f7a4_18 : decode cJ6_bitCount_0f7a4 18 = .ok (.ldc_w 266, 3) := by decide +kernel
theorem dJ6_bitCount_0f7a4_21 : decode cJ6_bitCount_0f7a4 21 = .ok (.iand, 1) := by decide +kernel
theorem dJ6_bitCount_0f7a4_22 : decode cJ6_bitCount_0f7a4 22 = .ok (.iadd, 1) := by decide +kernel
theorem dJ6_bitCount_0f7a4_23 : decode cJ6_bitCount_0f7a4 23 = .ok (.istore_n 0, 1) := by decide +kernel
theorem dJ6_bitCount_0f7a4_24 : decode cJ6_bitCount_0f7a4 24 = .ok (.iload_n 0, 1) := by decide +kernel
theorem dJ6_bitCount_0f7a4_25 : decode cJ6_bitCount_0f7a4 25 = .ok (.iload_n 0, 1) := by decide +kernel
theorem dJ6_bitCount_0f7a4_26 : decode cJ6_bitCount_0f7a4 26 = .ok (.iconst 4, 1) := by decide +kernel
theorem dJ6_bitCount_0f7a4_27 : decode cJ6_bitCount_0f7a4 27 = .ok (.iushr, 1) := by decide +kernel
theorem dJ6_bitCount_0f7a4_28 : decode cJ6_bitCount_0f7a4 28 = .ok (.iadd, 1) := by decide +kernel
theorem dJ6_bitCount_0f7a4_29 : decode cJ6_bitCount_0f7a4 29 = .ok (.ldc_w 267, 3) := by decide +kernel
theorem dJ6_bitCount_0f7a4_32 : decode cJ6_bitCount_0f7a4 32 = .ok (.iand, 1) := by decide +kernel
theorem dJ6_bitCount_0f7a4_33 : decode cJ6_bitCount_0f7a4 33 = .ok (.istore_n 0, 1) := by decide +kernel
theorem dJ6_bitCount_0f7a4_34 : decode cJ6_bitCount_0f7a4 34 = .ok (.iload_n 0, 1) := by decide +kernel
theorem dJ6_bitCount_0f7a4_35 : decode cJ6_bitCount_0f7a4 35 = .ok (.iload_n 0, 1) := by decide +kernel
theorem dJ6_bitCount_0f7a4_36 : decode cJ6_bitCount_0f7a4 36 = .ok (.bipush 8, 2) := by decide +kernel
theorem dJ6_bitCount_0f7a4_38 : decode cJ6_bitCount_0f7a4 38 = .ok (.iushr, 1) := by decide +kernel
theorem dJ6_bitCount_0f7a4_39 : decode cJ6_bitCount_0f7a4 39 = .ok (.iadd, 1) := by decide +kernel
theorem dJ6_bitCount_0f7a4_40 : decode cJ6_bitCount_0f7a4 40 = .ok (.istore_n 0, 1) := by decide +kernel
theorem dJ6_bitCount_0f7a4_41 : decode cJ6_bitCount_0f7a4 41 = .ok (.iload_n 0, 1) := by decide +kernel
theorem dJ6_bitCount_0f7a4_42 : decode cJ6_bitCount_0f7a4 42 = .ok (.iload_n 0, 1) := by decide +kernel
theorem dJ6_bitCount_0f7a4_43 : decode cJ6_bitCount_0f7a4 43 = .ok (.bipush 16, 2) := by decide +kernel
theorem dJ6_bitCount_0f7a4_45 : decode cJ6_bitCount_0f7a4 45 = .ok (.iushr, 1) := by decide +kernel
theorem dJ6_bitCount_0f7a4_46 : decode cJ6_bitCount_0f7a4 46 = .ok (.iadd, 1) := by decide +kernel
theorem dJ6_bitCount_0f7a4_47 : decode cJ6_bitCount_0f7a4 47 = .ok (.istore_n 0, 1) := by decide +kernel
theorem dJ6_bitCount_0f7a4_48 : decode cJ6_bitCount_0f7a4 48 = .ok (.iload_n 0, 1) := by decide +kernel
theorem dJ6_bitCount_0f7a4_49 : decode cJ6_bitCount_0f7a4 49 = .ok (.bipush 63, 2) := by decide +kernel
theorem dJ6_bitCount_0f7a4_51 : decode cJ6_bitCount_0f7a4 51 = .ok (.iand, 1) := by decide +kernel
theorem dJ6_bitCount_0f7a4_52 : decode cJ6_bitCount_0f7a4 52 = .ok (.ireturn, 1) := by decide +kernel
theorem dJ9_floorMod_7cf53_0 : decode cJ9_floorMod_7cf53 0 = .ok (.iload_n 0, 1) := by decide +kernel
theorem dJ9_floorMod_7cf53_1 : decode cJ9_floorMod_7cf53 1 = .ok (.iload_n 1, 1) := by decide +kernel
theorem dJ9_floorMod_7cf53_2 : decode cJ9_floorMod_7cf53 2 = .ok (.irem, 1) := by decide +kernel
theorem dJ9_floorMod_7cf53_3 : decode cJ9_floorMod_7cf53 3 = .ok (.istore_n 2, 1) := by decide +kernel
theorem dJ9_floorMod_7cf53_4 : decode cJ9_floorMod_7cf53 4 = .ok (.iload_n 0, 1) := by decide +kernel
theorem dJ9_floorMod_7cf53_5 : decode cJ9_floorMod_7cf53 5 = .ok (.iload_n 1, 1) := by decide +kernel
theorem dJ9_floorMod_7cf53_6 : decode cJ9_floorMod_7cf53 6 = .ok (.ixor, 1) := by decide +kernel
theorem dJ9_floorMod_7cf53_7 : decode cJ9_floorMod_7cf53 7 = .ok (.ifCond .ge 11, 3) := by decide +kernel
theorem dJ9_floorMod_7cf53_10 : decode cJ9_floorMod_7cf53 10 = .ok (.iload_n 2, 1) := by decide +kernel
theorem dJ9_floorMod_7cf53_11 : decode cJ9_floorMod_7cf53 11 = .ok (.ifCond .eq 7, 3) := by decide +kernel
theorem dJ9_floorMod_7cf53_14 : decode cJ9_floorMod_7cf53 14 = .ok (.iload_n 2, 1) := by decide +kernel
theorem dJ9_floorMod_7cf53_15 : decode cJ9_floorMod_7cf53 15 = .ok (.iload_n 1, 1) := by decide +kernel
theorem dJ9_floorMod_7cf53_16 : decode cJ9_floorMod_7cf53 16 = .ok (.iadd, 1) := by decide +kernel
theorem dJ9_floorMod_7cf53_17 : decode cJ9_floorMod_7cf53 17 = .ok (.ireturn, 1) := by decide +kernel
theorem dJ9_floorMod_7cf53_18 : decode cJ9_floorMod_7cf53 18 = .ok (.iload_n 2, 1) := by decide +kernel
theorem dJ9_floorMod_7cf53_19 : decode cJ9_floorMod_7cf53 19 = .ok (.ireturn, 1) := by decide +kernel
theorem dJ9_max_7cf53_0 : decode cJ9_max_7cf53 0 = .ok (.iload_n 0, 1) := by decide +kernel
theorem dJ9_max_7cf53_1 : decode cJ9_max_7cf53 1 = .ok (.iload_n 1, 1) := by decide +kernel
theorem dJ9_max_7cf53_2 : decode cJ9_max_7cf53 2 = .ok (.if_icmp .lt 7, 3) := by decide +kernel
theorem dJ9_max_7cf53_5 : decode cJ9_max_7cf53 5 = .ok (.iload_n 0, 1) := by decide +kernel
theorem dJ9_max_7cf53_6 : decode cJ9_max_7cf53 6 = .ok (.goto 4, 3) := by decide +kernel
theorem dJ9_max_7cf53_9 : decode cJ9_max_7cf53 9 = .ok (.iload_n 1, 1) := by decide +kernel
theorem dJ9_max_7cf53_10 : decode cJ9_max_7cf53 10 = .ok (.ireturn, 1) := by decide +kernel
theorem dJ9_min_7cf53_0 : decode cJ9_min_7cf53 0 = .ok (.iload_n 0, 1) := by decide +kernel
theorem dJ9_min_7cf53_1 : decode cJ9_min_7cf53 1 = .ok (.iload_n 1, 1) := by decide +kernel
theorem dJ9_min_7cf53_2 : decode cJ9_min_7cf53 2 = .ok (.if_icmp .gt 7, 3) := by decide +kernel
theorem dJ9_min_7cf53_5 : decode cJ9_min_7cf53 5 = .ok (.iload_n 0, 1) := by decide +kernel
theorem dJ9_min_7cf53_6 : decode cJ9_min_7cf53 6 = .ok (.goto 4, 3) := by decide +kernel
theorem dJ9_min_7cf53_9 : decode cJ9_min_7cf53 9 = .ok (.iload_n 1, 1) := by decide +kernel
theorem dJ9_min_7cf53_10 : decode cJ9_min_7cf53 10 = .ok (.ireturn, 1) := by decide +kernel
theorem dJ0_length_8abf5_0 : decode cJ0_length_8abf5 0 = .ok (.aload_n 0, 1) := by decide +kernel
theorem dJ0_length_8abf5_1 : decode cJ0_length_8abf5 1 = .ok (.getfield 9, 3) := by decide +kernel
theorem dJ0_length_8abf5_4 : decode cJ0_length_8abf5 4 = .ok (.arraylength, 1) := by decide +kernel
theorem dJ0_length_8abf5_5 : decode cJ0_length_8abf5 5 = .ok (.aload_n 0, 1) := by decide +kernel
theorem dJ0_length_8abf5_6 : decode cJ0_length_8abf5 6 = .ok (.invokevirtual 335, 3) := by decide +kernel
theorem dJ0_length_8abf5_9 : decode cJ0_length_8abf5 9 = .ok (.ishr, 1) := by decide +kernel
theorem dJ0_length_8abf5_10 : decode cJ0_length_8abf5 10 = .ok (.ireturn, 1) := by decide +kernel
theorem dJ0_charAt_5068e_0 : decode cJ0_charAt_5068e 0 = .ok (.aload_n 0, 1) := by decide +kernel
theorem dJ0_charAt_5068e_1 : decode cJ0_charAt_5068e 1 = .ok (.invokevirtual 492, 3) := by decide +kernel
theorem dJ0_charAt_5068e_4 : decode cJ0_charAt_5068e 4 = .ok (.ifCond .eq 12, 3) := by decide +kernel
theorem dJ0_charAt_5068e_7 : decode cJ0_charAt_5068e 7 = .ok (.aload_n 0, 1) := by decide +kernel
theorem dJ0_charAt_5068e_8 : decode cJ0_charAt_5068e 8 = .ok (.getfield 9, 3) := by decide +kernel
theorem dJ0_charAt_5068e_11 : decode cJ0_charAt_5068e 11 = .ok (.iload_n 1, 1) := by decide +kernel
theorem dJ0_charAt_5068e_12 : decode cJ0_charAt_5068e 12 = .ok (.invokestatic 495, 3) := by decide +kernel
theorem dJ0_charAt_5068e_15 : decode cJ0_charAt_5068e 15 = .ok (.ireturn, 1) := by decide +kernel
theorem dJ0_charAt_5068e_16 : decode cJ0_charAt_5068e 16 = .ok (.aload_n 0, 1) := by decide +kernel
theorem dJ0_charAt_5068e_17 : decode cJ0_charAt_5068e 17 = .ok (.getfield 9, 3) := by decide +kernel
theorem dJ0_charAt_5068e_20 : decode cJ0_charAt_5068e 20 = .ok (.iload_n 1, 1) := by decide +kernel
theorem dJ0_charAt_5068e_21 : decode cJ0_charAt_5068e 21 = .ok (.invokestatic 498, 3) := by decide +kernel
theorem dJ0_charAt_5068e_24 : decode cJ0_charAt_5068e 24 = .ok (.ireturn, 1) := by decide +kernel
theorem dJ0_coder_7d493_0 : decode cJ0_coder_7d493 0 = .ok (.getstatic 38, 3) := by decide +kernel
theorem dJ0_coder_7d493_3 : decode cJ0_coder_7d493 3 = .ok (.ifCond .eq 10, 3) := by decide +kernel
theorem dJ0_coder_7d493_6 : decode cJ0_coder_7d493 6 = .ok (.aload_n 0, 1) := by decide +kernel
theorem dJ0_coder_7d493_7 : decode cJ0_coder_7d493 7 = .ok (.getfield 15, 3) := by decide +kernel
theorem dJ0_coder_7d493_10 : decode cJ0_coder_7d493 10 = .ok (.goto 4, 3) := by decide +kernel
theorem dJ0_coder_7d493_13 : decode cJ0_coder_7d493 13 = .ok (.iconst 1, 1) := by decide +kernel
theorem dJ0_coder_7d493_14 : decode cJ0_coder_7d493 14 = .ok (.ireturn, 1) := by decide +kernel
theorem dJ0_isLatin1_aae02_0 : decode cJ0_isLatin1_aae02 0 = .ok (.getstatic 38, 3) := by decide +kernel
theorem dJ0_isLatin1_aae02_3 : decode cJ0_isLatin1_aae02 3 = .ok (.ifCond .eq 14, 3) := by decide +kernel
theorem dJ0_isLatin1_aae02_6 : decode cJ0_isLatin1_aae02 6 = .ok (.aload_n 0, 1) := by decide +kernel
theorem dJ0_isLatin1_aae02_7 : decode cJ0_isLatin1_aae02 7 = .ok (.getfield 15, 3) := by decide +kernel
theorem dJ0_isLatin1_aae02_10 : decode cJ0_isLatin1_aae02 10 = .ok (.ifCond .ne 7, 3) := by decide +kernel
theorem dJ0_isLatin1_aae02_13 : decode cJ0_isLatin1_aae02 13 = .ok (.iconst 1, 1) := by decide +kernel
theorem dJ0_isLatin1_aae02_14 : decode cJ0_isLatin1_aae02 14 = .ok (.goto 4, 3) := by decide +kernel
theorem dJ0_isLatin1_aae02_17 : decode cJ0_isLatin1_aae02 17 = .ok (.iconst 0, 1) := by decide +kernel
theorem dJ0_isLatin1_aae02_18 : decode cJ0_isLatin1_aae02 18 = .ok (.ireturn, 1) := by decide +kernel
theorem dJ0_checkIndex_df160_0 : decode cJ0_checkIndex_df160 0 = .ok (.iload_n 0, 1) := by decide +kernel
theorem dJ0_checkIndex_df160_1 : decode cJ0_checkIndex_df160 1 = .ok (.iload_n 1, 1) := by decide +kernel
theorem dJ0_checkIndex_df160_2 : decode cJ0_checkIndex_df160 2 = .ok (.getstatic 1053, 3) := by decide +kernel
theorem dJ0_checkIndex_df160_5 : decode cJ0_checkIndex_df160 5 = .ok (.invokestatic 1059, 3) := by decide +kernel
theorem dJ0_checkIndex_df160_8 : decode cJ0_checkIndex_df160 8 = .ok (.pop, 1) := by decide +kernel
theorem dJ0_checkIndex_df160_9 : decode cJ0_checkIndex_df160 9 = .ok (.return_, 1) := by decide +kernel
theorem dJ1_charAt_3b067_0 : decode cJ1_charAt_3b067 0 = .ok (.iload_n 1, 1) := by decide +kernel
theorem dJ1_charAt_3b067_1 : decode cJ1_charAt_3b067 1 = .ok (.aload_n 0, 1) := by decide +kernel
theorem dJ1_charAt_3b067_2 : decode cJ1_charAt_3b067 2 = .ok (.arraylength, 1) := by decide +kernel
theorem dJ1_charAt_3b067_3 : decode cJ1_charAt_3b067 3 = .ok (.invokestatic 9, 3) := by decide +kernel
theorem dJ1_charAt_3b067_6 : decode cJ1_charAt_3b067 6 = .ok (.aload_n 0, 1) := by decide +kernel
theorem dJ1_charAt_3b067_7 : decode cJ1_charAt_3b067 7 = .ok (.iload_n 1, 1) := by decide +kernel
theorem dJ1_charAt_3b067_8 : decode cJ1_charAt_3b067 8 = .ok (.baload, 1) := by decide +kernel
theorem dJ1_charAt_3b067_9 : decode cJ1_charAt_3b067 9 = .ok (.sipush 255, 3) := by decide +kernel
theorem dJ1_charAt_3b067_12 : decode cJ1_charAt_3b067 12 = .ok (.iand, 1) := by decide +kernel
theorem dJ1_charAt_3b067_13 : decode cJ1_charAt_3b067 13 = .ok (.i2c, 1) := by decide +kernel
theorem dJ1_charAt_3b067_14 : decode cJ1_charAt_3b067 14 = .ok (.ireturn, 1) := by decide +kernel
theorem dJ2_getChar_3b067_0 : decode cJ2_getChar_3b067 0 = .ok (.getstatic 44, 3) := by decide +kernel
theorem dJ2_getChar_3b067_3 : decode cJ2_getChar_3b067 3 = .ok (.ifCond .ne 25, 3) := by decide +kernel
theorem dJ2_getChar_3b067_6 : decode cJ2_getChar_3b067 6 = .ok (.iload_n 1, 1) := by decide +kernel
theorem dJ2_getChar_3b067_7 : decode cJ2_getChar_3b067 7 = .ok (.ifCond .lt 11, 3) := by decide +kernel
theorem dJ2_getChar_3b067_10 : decode cJ2_getChar_3b067 10 = .ok (.iload_n 1, 1) := by decide +kernel
theorem dJ2_getChar_3b067_11 : decode cJ2_getChar_3b067 11 = .ok (.aload_n 0, 1) := by decide +kernel
theorem dJ2_getChar_3b067_12 : decode cJ2_getChar_3b067 12 = .ok (.invokestatic 48, 3) := by decide +kernel
theorem dJ2_getChar_3b067_15 : decode cJ2_getChar_3b067 15 = .ok (.if_icmp .lt 13, 3) := by decide +kernel
theorem dJ2_getChar_3b067_18 : decode cJ2_getChar_3b067 18 = .ok (.new 52, 3) := by decide +kernel
theorem dJ2_getChar_3b067_21 : decode cJ2_getChar_3b067 21 = .ok (.dup, 1) := by decide +kernel
theorem dJ2_getChar_3b067_22 : decode cJ2_getChar_3b067 22 = .ok (.ldc 54, 2) := by decide +kernel
theorem dJ2_getChar_3b067_24 : decode cJ2_getChar_3b067 24 = .ok (.invokespecial 56, 3) := by decide +kernel
theorem dJ2_getChar_3b067_27 : decode cJ2_getChar_3b067 27 = .ok (.athrow, 1) := by decide +kernel
theorem dJ2_getChar_3b067_28 : decode cJ2_getChar_3b067 28 = .ok (.iload_n 1, 1) := by decide +kernel
theorem dJ2_getChar_3b067_29 : decode cJ2_getChar_3b067 29 = .ok (.iconst 1, 1) := by decide +kernel
theorem dJ2_getChar_3b067_30 : decode cJ2_getChar_3b067 30 = .ok (.ishl, 1) := by decide +kernel
theorem dJ2_getChar_3b067_31 : decode cJ2_getChar_3b067 31 = .ok (.istore_n 1, 1) := by decide +kernel
theorem dJ2_getChar_3b067_32 : decode cJ2_getChar_3b067 32 = .ok (.aload_n 0, 1) := by decide +kernel
theorem dJ2_getChar_3b067_33 : decode cJ2_getChar_3b067 33 = .ok (.iload_n 1, 1) := by decide +kernel
theorem dJ2_getChar_3b067_34 : decode cJ2_getChar_3b067 34 = .ok (.iinc 1 1, 3) := by decide +kernel
theorem dJ2_getChar_3b067_37 : decode cJ2_getChar_3b067 37 = .ok (.baload, 1) := by decide +kernel
theorem dJ2_getChar_3b067_38 : decode cJ2_getChar_3b067 38 = .ok (.sipush 255, 3) := by decide +kernel
theorem dJ2_getChar_3b067_41 : decode cJ2_getChar_3b067 41 = .ok (.iand, 1) := by decide +kernel
theorem dJ2_getChar_3b067_42 : decode cJ2_getChar_3b067 42 = .ok (.getstatic 59, 3) := by decide +kernel
theorem dJ2_getChar_3b067_45 : decode cJ2_getChar_3b067 45 = .ok (.ishl, 1) := by decide +kernel
theorem dJ2_getChar_3b067_46 : decode cJ2_getChar_3b067 46 = .ok (.aload_n 0, 1) := by decide +kernel
theorem dJ2_getChar_3b067_47 : decode cJ2_getChar_3b067 47 = .ok (.iload_n 1, 1) := by decide +kernel
theorem dJ2_getChar_3b067_48 : decode cJ2_getChar_3b067 48 = .ok (.baload, 1) := by decide +kernel
theorem dJ2_getChar_3b067_49 : decode cJ2_getChar_3b067 49 = .ok (.sipush 255, 3) := by decide +kernel
theorem dJ2_getChar_3b067_52 : decode cJ2_getChar_3b067 52 = .ok (.iand, 1) := by decide +kernel
theorem dJ2_getChar_3b067_53 : decode cJ2_getChar_3b067 53 = .ok (.getstatic 63, 3) := by decide +kernel
theorem dJ2_getChar_3b067_56 : decode cJ2_getChar_3b067 56 = .ok (.ishl, 1) := by decide +kernel
theorem dJ2_getChar_3b067_57 : decode cJ2_getChar_3b067 57 = .ok (.ior, 1) := by decide +kernel
theorem dJ2_getChar_3b067_58 : decode cJ2_getChar_3b067 58 = .ok (.i2c, 1) := by decide +kernel
theorem dJ2_getChar_3b067_59 : decode cJ2_getChar_3b067 59 = .ok (.ireturn, 1) := by decide +kernel
theorem dJ2_length_9d52b_0 : decode cJ2_length_9d52b 0 = .ok (.aload_n 0, 1) := by decide +kernel
theorem dJ2_length_9d52b_1 : decode cJ2_length_9d52b 1 = .ok (.arraylength, 1) := by decide +kernel
theorem dJ2_length_9d52b_2 : decode cJ2_length_9d52b 2 = .ok (.iconst 1, 1) := by decide +kernel
theorem dJ2_length_9d52b_3 : decode cJ2_length_9d52b 3 = .ok (.ishr, 1) := by decide +kernel
theorem dJ2_length_9d52b_4 : decode cJ2_length_9d52b 4 = .ok (.ireturn, 1) := by decide +kernel
theorem dJ2_charAt_3b067_0 : decode cJ2_charAt_3b067 0 = .ok (.iload_n 1, 1) := by decide +kernel
theorem dJ2_charAt_3b067_1 : decode cJ2_charAt_3b067 1 = .ok (.aload_n 0, 1) := by decide +kernel
theorem dJ2_charAt_3b067_2 : decode cJ2_charAt_3b067 2 = .ok (.invokestatic 67, 3) := by decide +kernel
theorem dJ2_charAt_3b067_5 : decode cJ2_charAt_3b067 5 = .ok (.aload_n 0, 1) := by decide +kernel
theorem dJ2_charAt_3b067_6 : decode cJ2_charAt_3b067 6 = .ok (.iload_n 1, 1) := by decide +kernel
theorem dJ2_charAt_3b067_7 : decode cJ2_charAt_3b067 7 = .ok (.invokestatic 71, 3) := by decide +kernel
theorem dJ2_charAt_3b067_10 : decode cJ2_charAt_3b067 10 = .ok (.ireturn, 1) := by decide +kernel
theorem dJ2_checkIndex_2214a_0 : decode cJ2_checkIndex_2214a 0 = .ok (.iload_n 0, 1) := by decide +kernel
theorem dJ2_checkIndex_2214a_1 : decode cJ2_checkIndex_2214a 1 = .ok (.aload_n 1, 1) := by decide +kernel
theorem dJ2_checkIndex_2214a_2 : decode cJ2_checkIndex_2214a 2 = .ok (.invokestatic 48, 3) := by decide +kernel
theorem dJ2_checkIndex_2214a_5 : decode cJ2_checkIndex_2214a 5 = .ok (.invokestatic 414, 3) := by decide +kernel
theorem dJ2_checkIndex_2214a_8 : decode cJ2_checkIndex_2214a 8 = .ok (.return_, 1) := by decide +kernel
theorem dJ7_fill_53178_0 : decode cJ7_fill_53178 0 = .ok (.iconst 0, 1) := by decide +kernel
theorem dJ7_fill_53178_1 : decode cJ7_fill_53178 1 = .ok (.istore_n 2, 1) := by decide +kernel
theorem dJ7_fill_53178_2 : decode cJ7_fill_53178 2 = .ok (.aload_n 0, 1) := by decide +kernel
theorem dJ7_fill_53178_3 : decode cJ7_fill_53178 3 = .ok (.arraylength, 1) := by decide +kernel
theorem dJ7_fill_53178_4 : decode cJ7_fill_53178 4 = .ok (.istore_n 3, 1) := by decide +kernel
theorem dJ7_fill_53178_5 : decode cJ7_fill_53178 5 = .ok (.iload_n 2, 1) := by decide +kernel
theorem dJ7_fill_53178_6 : decode cJ7_fill_53178 6 = .ok (.iload_n 3, 1) := by decide +kernel
theorem dJ7_fill_53178_7 : decode cJ7_fill_53178 7 = .ok (.if_icmp .ge 13, 3) := by decide +kernel
theorem dJ7_fill_53178_10 : decode cJ7_fill_53178 10 = .ok (.aload_n 0, 1) := by decide +kernel
theorem dJ7_fill_53178_11 : decode cJ7_fill_53178 11 = .ok (.iload_n 2, 1) := by decide +kernel
theorem dJ7_fill_53178_12 : decode cJ7_fill_53178 12 = .ok (.iload_n 1, 1) := by decide +kernel
theorem dJ7_fill_53178_13 : decode cJ7_fill_53178 13 = .ok (.iastore, 1) := by decide +kernel
theorem dJ7_fill_53178_14 : decode cJ7_fill_53178 14 = .ok (.iinc 2 1, 3) := by decide +kernel
theorem dJ7_fill_53178_17 : decode cJ7_fill_53178 17 = .ok (.goto (-12), 3) := by decide +kernel
theorem dJ7_fill_53178_20 : decode cJ7_fill_53178 20 = .ok (.return_, 1) := by decide +kernel
theorem dJ3_checkIndex_8e157_0 : decode cJ3_checkIndex_8e157 0 = .ok (.iload_n 0, 1) := by decide +kernel
theorem dJ3_checkIndex_8e157_1 : decode cJ3_checkIndex_8e157 1 = .ok (.ifCond .lt 8, 3) := by decide +kernel
theorem dJ3_checkIndex_8e157_4 : decode cJ3_checkIndex_8e157 4 = .ok (.iload_n 0, 1) := by decide +kernel
theorem dJ3_checkIndex_8e157_5 : decode cJ3_checkIndex_8e157 5 = .ok (.iload_n 1, 1) := by decide +kernel
theorem dJ3_checkIndex_8e157_6 : decode cJ3_checkIndex_8e157 6 = .ok (.if_icmp .lt 10, 3) := by decide +kernel
theorem dJ3_checkIndex_8e157_9 : decode cJ3_checkIndex_8e157 9 = .ok (.aload_n 2, 1) := by decide +kernel
theorem dJ3_checkIndex_8e157_10 : decode cJ3_checkIndex_8e157 10 = .ok (.iload_n 0, 1) := by decide +kernel
theorem dJ3_checkIndex_8e157_11 : decode cJ3_checkIndex_8e157 11 = .ok (.iload_n 1, 1) := by decide +kernel
theorem dJ3_checkIndex_8e157_12 : decode cJ3_checkIndex_8e157 12 = .ok (.invokestatic 95, 3) := by decide +kernel
theorem dJ3_checkIndex_8e157_15 : decode cJ3_checkIndex_8e157 15 = .ok (.athrow, 1) := by decide +kernel
theorem dJ3_checkIndex_8e157_16 : decode cJ3_checkIndex_8e157 16 = .ok (.iload_n 0, 1) := by decide +kernel
theorem dJ3_checkIndex_8e157_17 : decode cJ3_checkIndex_8e157 17 = .ok (.ireturn, 1) := by decide +kernel
