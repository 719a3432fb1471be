theorem d_bk_init_0 : decode b_bk_init 0 = .ok (.aload_n 0, 1) := by decide +kernel
theorem d_bk_init_1 : decode b_bk_init 1 = .ok (.invokespecial 3, 3) := by decide +kernel
theorem d_bk_init_4 : decode b_bk_init 4 = .ok (.aload_n 0, 1) := by decide +kernel
theorem d_bk_init_5 : decode b_bk_init 5 = .ok (.sipush 200, 3) := by decide +kernel
theorem d_bk_init_8 : decode b_bk_init 8 = .ok (.newarray .int, 2) := by decide +kernel
theorem d_bk_init_10 : decode b_bk_init 10 = .ok (.putfield 9, 3) := by decide +kernel
theorem d_bk_init_13 : decode b_bk_init 13 = .ok (.aload_n 0, 1) := by decide +kernel
theorem d_bk_init_14 : decode b_bk_init 14 = .ok (.iconst 0, 1) := by decide +kernel
theorem d_bk_init_15 : decode b_bk_init 15 = .ok (.putfield 13, 3) := by decide +kernel
theorem d_bk_init_18 : decode b_bk_init 18 = .ok (.aload_n 0, 1) := by decide +kernel
theorem d_bk_init_19 : decode b_bk_init 19 = .ok (.iconst 2, 1) := by decide +kernel
theorem d_bk_init_20 : decode b_bk_init 20 = .ok (.putfield 17, 3) := by decide +kernel
theorem d_bk_init_23 : decode b_bk_init 23 = .ok (.aload_n 0, 1) := by decide +kernel
theorem d_bk_init_24 : decode b_bk_init 24 = .ok (.iconst 3, 1) := by decide +kernel
theorem d_bk_init_25 : decode b_bk_init 25 = .ok (.putfield 20, 3) := by decide +kernel
theorem d_bk_init_28 : decode b_bk_init 28 = .ok (.aload_n 0, 1) := by decide +kernel
theorem d_bk_init_29 : decode b_bk_init 29 = .ok (.new 23, 3) := by decide +kernel
theorem d_bk_init_32 : decode b_bk_init 32 = .ok (.dup, 1) := by decide +kernel
theorem d_bk_init_33 : decode b_bk_init 33 = .ok (.invokespecial 25, 3) := by decide +kernel
theorem d_bk_init_36 : decode b_bk_init 36 = .ok (.putfield 26, 3) := by decide +kernel
theorem d_bk_init_39 : decode b_bk_init 39 = .ok (.aload_n 0, 1) := by decide +kernel
theorem d_bk_init_40 : decode b_bk_init 40 = .ok (.new 23, 3) := by decide +kernel
theorem d_bk_init_43 : decode b_bk_init 43 = .ok (.dup, 1) := by decide +kernel
theorem d_bk_init_44 : decode b_bk_init 44 = .ok (.invokespecial 25, 3) := by decide +kernel
theorem d_bk_init_47 : decode b_bk_init 47 = .ok (.putfield 30, 3) := by decide +kernel
theorem d_bk_init_50 : decode b_bk_init 50 = .ok (.aload_n 0, 1) := by decide +kernel
theorem d_bk_init_51 : decode b_bk_init 51 = .ok (.new 33, 3) := by decide +kernel
theorem d_bk_init_54 : decode b_bk_init 54 = .ok (.dup, 1) := by decide +kernel
theorem d_bk_init_55 : decode b_bk_init 55 = .ok (.invokespecial 35, 3) := by decide +kernel
theorem d_bk_init_58 : decode b_bk_init 58 = .ok (.putfield 36, 3) := by decide +kernel
theorem d_bk_init_61 : decode b_bk_init 61 = .ok (.aload_n 0, 1) := by decide +kernel
theorem d_bk_init_62 : decode b_bk_init 62 = .ok (.new 33, 3) := by decide +kernel
theorem d_bk_init_65 : decode b_bk_init 65 = .ok (.dup, 1) := by decide +kernel
theorem d_bk_init_66 : decode b_bk_init 66 = .ok (.invokespecial 35, 3) := by decide +kernel
theorem d_bk_init_69 : decode b_bk_init 69 = .ok (.putfield 40, 3) := by decide +kernel
theorem d_bk_init_72 : decode b_bk_init 72 = .ok (.return_, 1) := by decide +kernel
theorem d_tr_init_0 : decode b_tr_init 0 = .ok (.aload_n 0, 1) := by decide +kernel
theorem d_tr_init_1 : decode b_tr_init 1 = .ok (.invokespecial 1, 3) := by decide +kernel
theorem d_tr_init_4 : decode b_tr_init 4 = .ok (.aload_n 0, 1) := by decide +kernel
theorem d_tr_init_5 : decode b_tr_init 5 = .ok (.new 7, 3) := by decide +kernel
theorem d_tr_init_8 : decode b_tr_init 8 = .ok (.dup, 1) := by decide +kernel
theorem d_tr_init_9 : decode b_tr_init 9 = .ok (.iconst 0, 1) := by decide +kernel
theorem d_tr_init_10 : decode b_tr_init 10 = .ok (.invokespecial 9, 3) := by decide +kernel
theorem d_tr_init_13 : decode b_tr_init 13 = .ok (.putfield 12, 3) := by decide +kernel
theorem d_tr_init_16 : decode b_tr_init 16 = .ok (.aload_n 0, 1) := by decide +kernel
theorem d_tr_init_17 : decode b_tr_init 17 = .ok (.iconst 0, 1) := by decide +kernel
theorem d_tr_init_18 : decode b_tr_init 18 = .ok (.putfield 18, 3) := by decide +kernel
theorem d_tr_init_21 : decode b_tr_init 21 = .ok (.aload_n 0, 1) := by decide +kernel
theorem d_tr_init_22 : decode b_tr_init 22 = .ok (.iconst 0, 1) := by decide +kernel
theorem d_tr_init_23 : decode b_tr_init 23 = .ok (.putfield 22, 3) := by decide +kernel
theorem d_tr_init_26 : decode b_tr_init 26 = .ok (.return_, 1) := by decide +kernel
theorem d_nd_init_0 : decode b_nd_init 0 = .ok (.aload_n 0, 1) := by decide +kernel
theorem d_nd_init_1 : decode b_nd_init 1 = .ok (.invokespecial 1, 3) := by decide +kernel
theorem d_nd_init_4 : decode b_nd_init 4 = .ok (.aload_n 0, 1) := by decide +kernel
theorem d_nd_init_5 : decode b_nd_init 5 = .ok (.aconst_null, 1) := by decide +kernel
theorem d_nd_init_6 : decode b_nd_init 6 = .ok (.putfield 7, 3) := by decide +kernel
theorem d_nd_init_9 : decode b_nd_init 9 = .ok (.aload_n 0, 1) := by decide +kernel
theorem d_nd_init_10 : decode b_nd_init 10 = .ok (.aconst_null, 1) := by decide +kernel
theorem d_nd_init_11 : decode b_nd_init 11 = .ok (.putfield 13, 3) := by decide +kernel
theorem d_nd_init_14 : decode b_nd_init 14 = .ok (.aload_n 0, 1) := by decide +kernel
theorem d_nd_init_15 : decode b_nd_init 15 = .ok (.aconst_null, 1) := by decide +kernel
theorem d_nd_init_16 : decode b_nd_init 16 = .ok (.putfield 16, 3) := by decide +kernel
theorem d_nd_init_19 : decode b_nd_init 19 = .ok (.aload_n 0, 1) := by decide +kernel
theorem d_nd_init_20 : decode b_nd_init 20 = .ok (.iload_n 1, 1) := by decide +kernel
theorem d_nd_init_21 : decode b_nd_init 21 = .ok (.putfield 20, 3) := by decide +kernel
theorem d_nd_init_24 : decode b_nd_init 24 = .ok (.return_, 1) := by decide +kernel
theorem d_rw_init_0 : decode b_rw_init 0 = .ok (.aload_n 0, 1) := by decide +kernel
theorem d_rw_init_1 : decode b_rw_init 1 = .ok (.invokespecial 3, 3) := by decide +kernel
theorem d_rw_init_4 : decode b_rw_init 4 = .ok (.aload_n 0, 1) := by decide +kernel
theorem d_rw_init_5 : decode b_rw_init 5 = .ok (.bipush 65, 2) := by decide +kernel
theorem d_rw_init_7 : decode b_rw_init 7 = .ok (.newarray .int, 2) := by decide +kernel
theorem d_rw_init_9 : decode b_rw_init 9 = .ok (.putfield 9, 3) := by decide +kernel
theorem d_rw_init_12 : decode b_rw_init 12 = .ok (.aload_n 0, 1) := by decide +kernel
theorem d_rw_init_13 : decode b_rw_init 13 = .ok (.bipush 66, 2) := by decide +kernel
theorem d_rw_init_15 : decode b_rw_init 15 = .ok (.newarray .int, 2) := by decide +kernel
theorem d_rw_init_17 : decode b_rw_init 17 = .ok (.putfield 15, 3) := by decide +kernel
theorem d_rw_init_20 : decode b_rw_init 20 = .ok (.aload_n 0, 1) := by decide +kernel
theorem d_rw_init_21 : decode b_rw_init 21 = .ok (.iconst 0, 1) := by decide +kernel
theorem d_rw_init_22 : decode b_rw_init 22 = .ok (.putfield 18, 3) := by decide +kernel
theorem d_rw_init_25 : decode b_rw_init 25 = .ok (.return_, 1) := by decide +kernel
theorem d_bk_put_0 : decode b_bk_put 0 = .ok (.iload_n 3, 1) := by decide +kernel
theorem d_bk_put_1 : decode b_bk_put 1 = .ok (.iconst 1, 1) := by decide +kernel
theorem d_bk_put_2 : decode b_bk_put 2 = .ok (.if_icmp .lt 23, 3) := by decide +kernel
theorem d_bk_put_5 : decode b_bk_put 5 = .ok (.iload_n 3, 1) := by decide +kernel
theorem d_bk_put_6 : decode b_bk_put 6 = .ok (.bipush 8, 2) := by decide +kernel
theorem d_bk_put_8 : decode b_bk_put 8 = .ok (.if_icmp .gt 17, 3) := by decide +kernel
theorem d_bk_put_11 : decode b_bk_put 11 = .ok (.aload_n 0, 1) := by decide +kernel
theorem d_bk_put_12 : decode b_bk_put 12 = .ok (.getfield 13, 3) := by decide +kernel
theorem d_bk_put_15 : decode b_bk_put 15 = .ok (.iload_n 3, 1) := by decide +kernel
theorem d_bk_put_16 : decode b_bk_put 16 = .ok (.iadd, 1) := by decide +kernel
theorem d_bk_put_17 : decode b_bk_put 17 = .ok (.aload_n 0, 1) := by decide +kernel
theorem d_bk_put_18 : decode b_bk_put 18 = .ok (.getfield 9, 3) := by decide +kernel
theorem d_bk_put_21 : decode b_bk_put 21 = .ok (.arraylength, 1) := by decide +kernel
theorem d_bk_put_22 : decode b_bk_put 22 = .ok (.if_icmp .le 5, 3) := by decide +kernel
theorem d_bk_put_25 : decode b_bk_put 25 = .ok (.iconst 0, 1) := by decide +kernel
theorem d_bk_put_26 : decode b_bk_put 26 = .ok (.ireturn, 1) := by decide +kernel
theorem d_bk_put_27 : decode b_bk_put 27 = .ok (.iload_n 3, 1) := by decide +kernel
theorem d_bk_put_28 : decode b_bk_put 28 = .ok (.iconst 1, 1) := by decide +kernel
theorem d_bk_put_29 : decode b_bk_put 29 = .ok (.isub, 1) := by decide +kernel
theorem d_bk_put_30 : decode b_bk_put 30 = .ok (.istore 4, 2) := by decide +kernel
theorem d_bk_put_32 : decode b_bk_put 32 = .ok (.iload 4, 2) := by decide +kernel
theorem d_bk_put_34 : decode b_bk_put 34 = .ok (.ifCond .lt 40, 3) := by decide +kernel
theorem d_bk_put_37 : decode b_bk_put 37 = .ok (.aload_n 0, 1) := by decide +kernel
theorem d_bk_put_38 : decode b_bk_put 38 = .ok (.getfield 9, 3) := by decide +kernel
theorem d_bk_put_41 : decode b_bk_put 41 = .ok (.aload_n 0, 1) := by decide +kernel
theorem d_bk_put_42 : decode b_bk_put 42 = .ok (.getfield 13, 3) := by decide +kernel
theorem d_bk_put_45 : decode b_bk_put 45 = .ok (.lload_n 1, 1) := by decide +kernel
theorem d_bk_put_46 : decode b_bk_put 46 = .ok (.bipush 8, 2) := by decide +kernel
theorem d_bk_put_48 : decode b_bk_put 48 = .ok (.iload 4, 2) := by decide +kernel
theorem d_bk_put_50 : decode b_bk_put 50 = .ok (.imul, 1) := by decide +kernel
theorem d_bk_put_51 : decode b_bk_put 51 = .ok (.lushr, 1) := by decide +kernel
theorem d_bk_put_52 : decode b_bk_put 52 = .ok (.l2i, 1) := by decide +kernel
theorem d_bk_put_53 : decode b_bk_put 53 = .ok (.sipush 255, 3) := by decide +kernel
theorem d_bk_put_56 : decode b_bk_put 56 = .ok (.iand, 1) := by decide +kernel
theorem d_bk_put_57 : decode b_bk_put 57 = .ok (.iastore, 1) := by decide +kernel
theorem d_bk_put_58 : decode b_bk_put 58 = .ok (.aload_n 0, 1) := by decide +kernel
theorem d_bk_put_59 : decode b_bk_put 59 = .ok (.dup, 1) := by decide +kernel
theorem d_bk_put_60 : decode b_bk_put 60 = .ok (.getfield 13, 3) := by decide +kernel
theorem d_bk_put_63 : decode b_bk_put 63 = .ok (.iconst 1, 1) := by decide +kernel
theorem d_bk_put_64 : decode b_bk_put 64 = .ok (.iadd, 1) := by decide +kernel
theorem d_bk_put_65 : decode b_bk_put 65 = .ok (.putfield 13, 3) := by decide +kernel
theorem d_bk_put_68 : decode b_bk_put 68 = .ok (.iinc 4 (-1), 3) := by decide +kernel
theorem d_bk_put_71 : decode b_bk_put 71 = .ok (.goto (-39), 3) := by decide +kernel
theorem d_bk_put_74 : decode b_bk_put 74 = .ok (.iconst 1, 1) := by decide +kernel
theorem d_bk_put_75 : decode b_bk_put 75 = .ok (.ireturn, 1) := by decide +kernel
theorem d_bk_least_0 : decode b_bk_least 0 = .ok (.iload_n 1, 1) := by decide +kernel
theorem d_bk_least_1 : decode b_bk_least 1 = .ok (.iconst 1, 1) := by decide +kernel
theorem d_bk_least_2 : decode b_bk_least 2 = .ok (.if_icmp .lt 20, 3) := by decide +kernel
theorem d_bk_least_5 : decode b_bk_least 5 = .ok (.iload_n 1, 1) := by decide +kernel
theorem d_bk_least_6 : decode b_bk_least 6 = .ok (.bipush 63, 2) := by decide +kernel
theorem d_bk_least_8 : decode b_bk_least 8 = .ok (.if_icmp .gt 14, 3) := by decide +kernel
theorem d_bk_least_11 : decode b_bk_least 11 = .ok (.iload_n 2, 1) := by decide +kernel
theorem d_bk_least_12 : decode b_bk_least 12 = .ok (.iconst 1, 1) := by decide +kernel
theorem d_bk_least_13 : decode b_bk_least 13 = .ok (.if_icmp .lt 9, 3) := by decide +kernel
theorem d_bk_least_16 : decode b_bk_least 16 = .ok (.iload_n 2, 1) := by decide +kernel
theorem d_bk_least_17 : decode b_bk_least 17 = .ok (.bipush 63, 2) := by decide +kernel
theorem d_bk_least_19 : decode b_bk_least 19 = .ok (.if_icmp .le 5, 3) := by decide +kernel
theorem d_bk_least_22 : decode b_bk_least 22 = .ok (.iconst 0, 1) := by decide +kernel
theorem d_bk_least_23 : decode b_bk_least 23 = .ok (.ireturn, 1) := by decide +kernel
theorem d_bk_least_24 : decode b_bk_least 24 = .ok (.aload_n 0, 1) := by decide +kernel
theorem d_bk_least_25 : decode b_bk_least 25 = .ok (.iload_n 1, 1) := by decide +kernel
theorem d_bk_least_26 : decode b_bk_least 26 = .ok (.putfield 17, 3) := by decide +kernel
theorem d_bk_least_29 : decode b_bk_least 29 = .ok (.aload_n 0, 1) := by decide +kernel
theorem d_bk_least_30 : decode b_bk_least 30 = .ok (.iload_n 2, 1) := by decide +kernel
theorem d_bk_least_31 : decode b_bk_least 31 = .ok (.putfield 20, 3) := by decide +kernel
theorem d_bk_least_34 : decode b_bk_least 34 = .ok (.iconst 1, 1) := by decide +kernel
theorem d_bk_least_35 : decode b_bk_least 35 = .ok (.ireturn, 1) := by decide +kernel
theorem d_bk_value_0 : decode b_bk_value 0 = .ok (.iload_n 1, 1) := by decide +kernel
theorem d_bk_value_1 : decode b_bk_value 1 = .ok (.iconst 1, 1) := by decide +kernel
theorem d_bk_value_2 : decode b_bk_value 2 = .ok (.if_icmp .lt 11, 3) := by decide +kernel
theorem d_bk_value_5 : decode b_bk_value 5 = .ok (.iload_n 1, 1) := by decide +kernel
theorem d_bk_value_6 : decode b_bk_value 6 = .ok (.aload_n 0, 1) := by decide +kernel
theorem d_bk_value_7 : decode b_bk_value 7 = .ok (.invokevirtual 102, 3) := by decide +kernel
theorem d_bk_value_10 : decode b_bk_value 10 = .ok (.if_icmp .lt 5, 3) := by decide +kernel
theorem d_bk_value_13 : decode b_bk_value 13 = .ok (.iconst (-1), 1) := by decide +kernel
theorem d_bk_value_14 : decode b_bk_value 14 = .ok (.ireturn, 1) := by decide +kernel
theorem d_bk_value_15 : decode b_bk_value 15 = .ok (.aload_n 0, 1) := by decide +kernel
theorem d_bk_value_16 : decode b_bk_value 16 = .ok (.getfield 40, 3) := by decide +kernel
theorem d_bk_value_19 : decode b_bk_value 19 = .ok (.iload_n 1, 1) := by decide +kernel
theorem d_bk_value_20 : decode b_bk_value 20 = .ok (.invokestatic 105, 3) := by decide +kernel
theorem d_bk_value_23 : decode b_bk_value 23 = .ok (.invokevirtual 109, 3) := by decide +kernel
theorem d_bk_value_26 : decode b_bk_value 26 = .ok (.ireturn, 1) := by decide +kernel
theorem d_bk_lettersOfAsked_0 : decode b_bk_lettersOfAsked 0 = .ok (.aload_n 0, 1) := by decide +kernel
theorem d_bk_lettersOfAsked_1 : decode b_bk_lettersOfAsked 1 = .ok (.getfield 40, 3) := by decide +kernel
theorem d_bk_lettersOfAsked_4 : decode b_bk_lettersOfAsked 4 = .ok (.invokevirtual 126, 3) := by decide +kernel
theorem d_bk_lettersOfAsked_7 : decode b_bk_lettersOfAsked 7 = .ok (.iconst 2, 1) := by decide +kernel
theorem d_bk_lettersOfAsked_8 : decode b_bk_lettersOfAsked 8 = .ok (.isub, 1) := by decide +kernel
theorem d_bk_lettersOfAsked_9 : decode b_bk_lettersOfAsked 9 = .ok (.ireturn, 1) := by decide +kernel
theorem d_rw_size_0 : decode b_rw_size 0 = .ok (.aload_n 0, 1) := by decide +kernel
theorem d_rw_size_1 : decode b_rw_size 1 = .ok (.getfield 18, 3) := by decide +kernel
theorem d_rw_size_4 : decode b_rw_size 4 = .ok (.ireturn, 1) := by decide +kernel
theorem d_bk_placeBehind_0 : decode b_bk_placeBehind 0 = .ok (.iload_n 0, 1) := by decide +kernel
theorem d_bk_placeBehind_1 : decode b_bk_placeBehind 1 = .ok (.iconst 1, 1) := by decide +kernel
theorem d_bk_placeBehind_2 : decode b_bk_placeBehind 2 = .ok (.iadd, 1) := by decide +kernel
theorem d_bk_placeBehind_3 : decode b_bk_placeBehind 3 = .ok (.ireturn, 1) := by decide +kernel
theorem d_rw_numberAt_0 : decode b_rw_numberAt 0 = .ok (.aload_n 0, 1) := by decide +kernel
theorem d_rw_numberAt_1 : decode b_rw_numberAt 1 = .ok (.getfield 15, 3) := by decide +kernel
theorem d_rw_numberAt_4 : decode b_rw_numberAt 4 = .ok (.iload_n 1, 1) := by decide +kernel
theorem d_rw_numberAt_5 : decode b_rw_numberAt 5 = .ok (.invokestatic 28, 3) := by decide +kernel
theorem d_rw_numberAt_8 : decode b_rw_numberAt 8 = .ok (.ireturn, 1) := by decide +kernel
theorem d_bk_elementAt_0 : decode b_bk_elementAt 0 = .ok (.aload_n 0, 1) := by decide +kernel
theorem d_bk_elementAt_1 : decode b_bk_elementAt 1 = .ok (.ifnull 19, 3) := by decide +kernel
theorem d_bk_elementAt_4 : decode b_bk_elementAt 4 = .ok (.iload_n 1, 1) := by decide +kernel
theorem d_bk_elementAt_5 : decode b_bk_elementAt 5 = .ok (.ifCond .lt 15, 3) := by decide +kernel
theorem d_bk_elementAt_8 : decode b_bk_elementAt 8 = .ok (.iload_n 1, 1) := by decide +kernel
theorem d_bk_elementAt_9 : decode b_bk_elementAt 9 = .ok (.aload_n 0, 1) := by decide +kernel
theorem d_bk_elementAt_10 : decode b_bk_elementAt 10 = .ok (.arraylength, 1) := by decide +kernel
theorem d_bk_elementAt_11 : decode b_bk_elementAt 11 = .ok (.if_icmp .ge 9, 3) := by decide +kernel
theorem d_bk_elementAt_14 : decode b_bk_elementAt 14 = .ok (.aload_n 0, 1) := by decide +kernel
theorem d_bk_elementAt_15 : decode b_bk_elementAt 15 = .ok (.iload_n 1, 1) := by decide +kernel
theorem d_bk_elementAt_16 : decode b_bk_elementAt 16 = .ok (.iaload, 1) := by decide +kernel
theorem d_bk_elementAt_17 : decode b_bk_elementAt 17 = .ok (.goto 4, 3) := by decide +kernel
theorem d_bk_elementAt_20 : decode b_bk_elementAt 20 = .ok (.iconst 0, 1) := by decide +kernel
theorem d_bk_elementAt_21 : decode b_bk_elementAt 21 = .ok (.ireturn, 1) := by decide +kernel
theorem d_bk_count_0 : decode b_bk_count 0 = .ok (.iload_n 1, 1) := by decide +kernel
theorem d_bk_count_1 : decode b_bk_count 1 = .ok (.tableswitch 60 0 3 #[31, 39, 47, 55], 31) := by decide +kernel
theorem d_bk_count_32 : decode b_bk_count 32 = .ok (.aload_n 0, 1) := by decide +kernel
theorem d_bk_count_33 : decode b_bk_count 33 = .ok (.getfield 26, 3) := by decide +kernel
theorem d_bk_count_36 : decode b_bk_count 36 = .ok (.invokevirtual 63, 3) := by decide +kernel
theorem d_bk_count_39 : decode b_bk_count 39 = .ok (.ireturn, 1) := by decide +kernel
theorem d_bk_count_40 : decode b_bk_count 40 = .ok (.aload_n 0, 1) := by decide +kernel
theorem d_bk_count_41 : decode b_bk_count 41 = .ok (.getfield 30, 3) := by decide +kernel
theorem d_bk_count_44 : decode b_bk_count 44 = .ok (.invokevirtual 63, 3) := by decide +kernel
theorem d_bk_count_47 : decode b_bk_count 47 = .ok (.ireturn, 1) := by decide +kernel
theorem d_bk_count_48 : decode b_bk_count 48 = .ok (.aload_n 0, 1) := by decide +kernel
theorem d_bk_count_49 : decode b_bk_count 49 = .ok (.getfield 26, 3) := by decide +kernel
theorem d_bk_count_52 : decode b_bk_count 52 = .ok (.invokevirtual 112, 3) := by decide +kernel
theorem d_bk_count_55 : decode b_bk_count 55 = .ok (.ireturn, 1) := by decide +kernel
theorem d_bk_count_56 : decode b_bk_count 56 = .ok (.aload_n 0, 1) := by decide +kernel
theorem d_bk_count_57 : decode b_bk_count 57 = .ok (.getfield 13, 3) := by decide +kernel
theorem d_bk_count_60 : decode b_bk_count 60 = .ok (.ireturn, 1) := by decide +kernel
theorem d_bk_count_61 : decode b_bk_count 61 = .ok (.iconst (-1), 1) := by decide +kernel
theorem d_bk_count_62 : decode b_bk_count 62 = .ok (.ireturn, 1) := by decide +kernel
theorem d_tr_entries_0 : decode b_tr_entries 0 = .ok (.aload_n 0, 1) := by decide +kernel
theorem d_tr_entries_1 : decode b_tr_entries 1 = .ok (.getfield 18, 3) := by decide +kernel
theorem d_tr_entries_4 : decode b_tr_entries 4 = .ok (.ireturn, 1) := by decide +kernel
theorem d_tr_beginnings_0 : decode b_tr_beginnings 0 = .ok (.aload_n 0, 1) := by decide +kernel
theorem d_tr_beginnings_1 : decode b_tr_beginnings 1 = .ok (.getfield 22, 3) := by decide +kernel
theorem d_tr_beginnings_4 : decode b_tr_beginnings 4 = .ok (.ireturn, 1) := by decide +kernel
theorem d_lw_pattern_0 : decode b_lw_pattern 0 = .ok (.aload_n 1, 1) := by decide +kernel
theorem d_lw_pattern_1 : decode b_lw_pattern 1 = .ok (.iconst 0, 1) := by decide +kernel
theorem d_lw_pattern_2 : decode b_lw_pattern 2 = .ok (.aload_n 0, 1) := by decide +kernel
theorem d_lw_pattern_3 : decode b_lw_pattern 3 = .ok (.invokevirtual 7, 3) := by decide +kernel
theorem d_lw_pattern_6 : decode b_lw_pattern 6 = .ok (.i2l, 1) := by decide +kernel
theorem d_lw_pattern_7 : decode b_lw_pattern 7 = .ok (.lastore, 1) := by decide +kernel
theorem d_lw_pattern_8 : decode b_lw_pattern 8 = .ok (.goto 9, 3) := by decide +kernel
theorem d_lw_pattern_11 : decode b_lw_pattern 11 = .ok (.astore_n 2, 1) := by decide +kernel
theorem d_lw_pattern_12 : decode b_lw_pattern 12 = .ok (.iconst 1, 1) := by decide +kernel
theorem d_lw_pattern_13 : decode b_lw_pattern 13 = .ok (.ireturn, 1) := by decide +kernel
theorem d_lw_pattern_14 : decode b_lw_pattern 14 = .ok (.astore_n 2, 1) := by decide +kernel
theorem d_lw_pattern_15 : decode b_lw_pattern 15 = .ok (.iconst 2, 1) := by decide +kernel
theorem d_lw_pattern_16 : decode b_lw_pattern 16 = .ok (.ireturn, 1) := by decide +kernel
theorem d_lw_pattern_17 : decode b_lw_pattern 17 = .ok (.iconst 0, 1) := by decide +kernel
theorem d_lw_pattern_18 : decode b_lw_pattern 18 = .ok (.ireturn, 1) := by decide +kernel
theorem d_bk_pattern_0 : decode b_bk_pattern 0 = .ok (.aload_n 0, 1) := by decide +kernel
theorem d_bk_pattern_1 : decode b_bk_pattern 1 = .ok (.invokevirtual 43, 3) := by decide +kernel
theorem d_bk_pattern_4 : decode b_bk_pattern 4 = .ok (.istore_n 1, 1) := by decide +kernel
theorem d_bk_pattern_5 : decode b_bk_pattern 5 = .ok (.aload_n 0, 1) := by decide +kernel
theorem d_bk_pattern_6 : decode b_bk_pattern 6 = .ok (.iconst 0, 1) := by decide +kernel
theorem d_bk_pattern_7 : decode b_bk_pattern 7 = .ok (.putfield 13, 3) := by decide +kernel
theorem d_bk_pattern_10 : decode b_bk_pattern 10 = .ok (.iload_n 1, 1) := by decide +kernel
theorem d_bk_pattern_11 : decode b_bk_pattern 11 = .ok (.ifCond .ne 13, 3) := by decide +kernel
theorem d_bk_pattern_14 : decode b_bk_pattern 14 = .ok (.new 47, 3) := by decide +kernel
theorem d_bk_pattern_17 : decode b_bk_pattern 17 = .ok (.dup, 1) := by decide +kernel
theorem d_bk_pattern_18 : decode b_bk_pattern 18 = .ok (.ldc 49, 2) := by decide +kernel
theorem d_bk_pattern_20 : decode b_bk_pattern 20 = .ok (.invokespecial 51, 3) := by decide +kernel
theorem d_bk_pattern_23 : decode b_bk_pattern 23 = .ok (.athrow, 1) := by decide +kernel
theorem d_bk_pattern_24 : decode b_bk_pattern 24 = .ok (.aload_n 0, 1) := by decide +kernel
theorem d_bk_pattern_25 : decode b_bk_pattern 25 = .ok (.getfield 26, 3) := by decide +kernel
theorem d_bk_pattern_28 : decode b_bk_pattern 28 = .ok (.aload_n 0, 1) := by decide +kernel
theorem d_bk_pattern_29 : decode b_bk_pattern 29 = .ok (.getfield 36, 3) := by decide +kernel
theorem d_bk_pattern_32 : decode b_bk_pattern 32 = .ok (.invokevirtual 54, 3) := by decide +kernel
theorem d_bk_pattern_35 : decode b_bk_pattern 35 = .ok (.ifnull 13, 3) := by decide +kernel
theorem d_bk_pattern_38 : decode b_bk_pattern 38 = .ok (.new 58, 3) := by decide +kernel
theorem d_bk_pattern_41 : decode b_bk_pattern 41 = .ok (.dup, 1) := by decide +kernel
theorem d_bk_pattern_42 : decode b_bk_pattern 42 = .ok (.ldc 60, 2) := by decide +kernel
theorem d_bk_pattern_44 : decode b_bk_pattern 44 = .ok (.invokespecial 62, 3) := by decide +kernel
theorem d_bk_pattern_47 : decode b_bk_pattern 47 = .ok (.athrow, 1) := by decide +kernel
theorem d_bk_pattern_48 : decode b_bk_pattern 48 = .ok (.aload_n 0, 1) := by decide +kernel
theorem d_bk_pattern_49 : decode b_bk_pattern 49 = .ok (.getfield 26, 3) := by decide +kernel
theorem d_bk_pattern_52 : decode b_bk_pattern 52 = .ok (.invokevirtual 63, 3) := by decide +kernel
theorem d_bk_pattern_55 : decode b_bk_pattern 55 = .ok (.sipush 8192, 3) := by decide +kernel
theorem d_bk_pattern_58 : decode b_bk_pattern 58 = .ok (.if_icmp .lt 13, 3) := by decide +kernel
theorem d_bk_pattern_61 : decode b_bk_pattern 61 = .ok (.new 58, 3) := by decide +kernel
theorem d_bk_pattern_64 : decode b_bk_pattern 64 = .ok (.dup, 1) := by decide +kernel
theorem d_bk_pattern_65 : decode b_bk_pattern 65 = .ok (.ldc 67, 2) := by decide +kernel
theorem d_bk_pattern_67 : decode b_bk_pattern 67 = .ok (.invokespecial 62, 3) := by decide +kernel
theorem d_bk_pattern_70 : decode b_bk_pattern 70 = .ok (.athrow, 1) := by decide +kernel
theorem d_bk_pattern_71 : decode b_bk_pattern 71 = .ok (.aload_n 0, 1) := by decide +kernel
theorem d_bk_pattern_72 : decode b_bk_pattern 72 = .ok (.getfield 26, 3) := by decide +kernel
theorem d_bk_pattern_75 : decode b_bk_pattern 75 = .ok (.aload_n 0, 1) := by decide +kernel
theorem d_bk_pattern_76 : decode b_bk_pattern 76 = .ok (.getfield 36, 3) := by decide +kernel
theorem d_bk_pattern_79 : decode b_bk_pattern 79 = .ok (.invokevirtual 69, 3) := by decide +kernel
theorem d_bk_pattern_82 : decode b_bk_pattern 82 = .ok (.ldc 73, 2) := by decide +kernel
theorem d_bk_pattern_84 : decode b_bk_pattern 84 = .ok (.if_icmp .le 13, 3) := by decide +kernel
theorem d_bk_pattern_87 : decode b_bk_pattern 87 = .ok (.new 58, 3) := by decide +kernel
theorem d_bk_pattern_90 : decode b_bk_pattern 90 = .ok (.dup, 1) := by decide +kernel
theorem d_bk_pattern_91 : decode b_bk_pattern 91 = .ok (.ldc 74, 2) := by decide +kernel
theorem d_bk_pattern_93 : decode b_bk_pattern 93 = .ok (.invokespecial 62, 3) := by decide +kernel
theorem d_bk_pattern_96 : decode b_bk_pattern 96 = .ok (.athrow, 1) := by decide +kernel
theorem d_bk_pattern_97 : decode b_bk_pattern 97 = .ok (.aload_n 0, 1) := by decide +kernel
theorem d_bk_pattern_98 : decode b_bk_pattern 98 = .ok (.getfield 26, 3) := by decide +kernel
theorem d_bk_pattern_101 : decode b_bk_pattern 101 = .ok (.aload_n 0, 1) := by decide +kernel
theorem d_bk_pattern_102 : decode b_bk_pattern 102 = .ok (.getfield 36, 3) := by decide +kernel
theorem d_bk_pattern_105 : decode b_bk_pattern 105 = .ok (.invokevirtual 76, 3) := by decide +kernel
theorem d_bk_pattern_108 : decode b_bk_pattern 108 = .ok (.aload_n 0, 1) := by decide +kernel
theorem d_bk_pattern_109 : decode b_bk_pattern 109 = .ok (.getfield 26, 3) := by decide +kernel
theorem d_bk_pattern_112 : decode b_bk_pattern 112 = .ok (.invokevirtual 63, 3) := by decide +kernel
theorem d_bk_pattern_115 : decode b_bk_pattern 115 = .ok (.ireturn, 1) := by decide +kernel
theorem d_bk_readPattern_0 : decode b_bk_readPattern 0 = .ok (.aload_n 0, 1) := by decide +kernel
theorem d_bk_readPattern_1 : decode b_bk_readPattern 1 = .ok (.getfield 36, 3) := by decide +kernel
theorem d_bk_readPattern_4 : decode b_bk_readPattern 4 = .ok (.invokevirtual 115, 3) := by decide +kernel
theorem d_bk_readPattern_7 : decode b_bk_readPattern 7 = .ok (.iconst 0, 1) := by decide +kernel
theorem d_bk_readPattern_8 : decode b_bk_readPattern 8 = .ok (.istore_n 1, 1) := by decide +kernel
theorem d_bk_readPattern_9 : decode b_bk_readPattern 9 = .ok (.iconst 0, 1) := by decide +kernel
theorem d_bk_readPattern_10 : decode b_bk_readPattern 10 = .ok (.istore_n 2, 1) := by decide +kernel
theorem d_bk_readPattern_11 : decode b_bk_readPattern 11 = .ok (.iload_n 2, 1) := by decide +kernel
theorem d_bk_readPattern_12 : decode b_bk_readPattern 12 = .ok (.aload_n 0, 1) := by decide +kernel
theorem d_bk_readPattern_13 : decode b_bk_readPattern 13 = .ok (.getfield 13, 3) := by decide +kernel
theorem d_bk_readPattern_16 : decode b_bk_readPattern 16 = .ok (.if_icmp .ge 82, 3) := by decide +kernel
theorem d_bk_readPattern_19 : decode b_bk_readPattern 19 = .ok (.aload_n 0, 1) := by decide +kernel
theorem d_bk_readPattern_20 : decode b_bk_readPattern 20 = .ok (.getfield 9, 3) := by decide +kernel
theorem d_bk_readPattern_23 : decode b_bk_readPattern 23 = .ok (.iload_n 2, 1) := by decide +kernel
theorem d_bk_readPattern_24 : decode b_bk_readPattern 24 = .ok (.invokestatic 118, 3) := by decide +kernel
theorem d_bk_readPattern_27 : decode b_bk_readPattern 27 = .ok (.istore_n 3, 1) := by decide +kernel
theorem d_bk_readPattern_28 : decode b_bk_readPattern 28 = .ok (.iload_n 3, 1) := by decide +kernel
theorem d_bk_readPattern_29 : decode b_bk_readPattern 29 = .ok (.invokestatic 122, 3) := by decide +kernel
theorem d_bk_readPattern_32 : decode b_bk_readPattern 32 = .ok (.ifCond .eq 32, 3) := by decide +kernel
theorem d_bk_readPattern_35 : decode b_bk_readPattern 35 = .ok (.iload_n 1, 1) := by decide +kernel
theorem d_bk_readPattern_36 : decode b_bk_readPattern 36 = .ok (.ifCond .eq 5, 3) := by decide +kernel
theorem d_bk_readPattern_39 : decode b_bk_readPattern 39 = .ok (.iconst 0, 1) := by decide +kernel
theorem d_bk_readPattern_40 : decode b_bk_readPattern 40 = .ok (.ireturn, 1) := by decide +kernel
theorem d_bk_readPattern_41 : decode b_bk_readPattern 41 = .ok (.aload_n 0, 1) := by decide +kernel
theorem d_bk_readPattern_42 : decode b_bk_readPattern 42 = .ok (.getfield 36, 3) := by decide +kernel
theorem d_bk_readPattern_45 : decode b_bk_readPattern 45 = .ok (.aload_n 0, 1) := by decide +kernel
theorem d_bk_readPattern_46 : decode b_bk_readPattern 46 = .ok (.getfield 36, 3) := by decide +kernel
theorem d_bk_readPattern_49 : decode b_bk_readPattern 49 = .ok (.invokevirtual 126, 3) := by decide +kernel
theorem d_bk_readPattern_52 : decode b_bk_readPattern 52 = .ok (.iload_n 3, 1) := by decide +kernel
theorem d_bk_readPattern_53 : decode b_bk_readPattern 53 = .ok (.bipush 48, 2) := by decide +kernel
theorem d_bk_readPattern_55 : decode b_bk_readPattern 55 = .ok (.isub, 1) := by decide +kernel
theorem d_bk_readPattern_56 : decode b_bk_readPattern 56 = .ok (.invokevirtual 129, 3) := by decide +kernel
theorem d_bk_readPattern_59 : decode b_bk_readPattern 59 = .ok (.iconst 1, 1) := by decide +kernel
theorem d_bk_readPattern_60 : decode b_bk_readPattern 60 = .ok (.istore_n 1, 1) := by decide +kernel
theorem d_bk_readPattern_61 : decode b_bk_readPattern 61 = .ok (.goto 31, 3) := by decide +kernel
theorem d_bk_readPattern_64 : decode b_bk_readPattern 64 = .ok (.iload_n 3, 1) := by decide +kernel
theorem d_bk_readPattern_65 : decode b_bk_readPattern 65 = .ok (.invokestatic 133, 3) := by decide +kernel
theorem d_bk_readPattern_68 : decode b_bk_readPattern 68 = .ok (.ifCond .ne 9, 3) := by decide +kernel
theorem d_bk_readPattern_71 : decode b_bk_readPattern 71 = .ok (.iload_n 3, 1) := by decide +kernel
theorem d_bk_readPattern_72 : decode b_bk_readPattern 72 = .ok (.bipush 46, 2) := by decide +kernel
theorem d_bk_readPattern_74 : decode b_bk_readPattern 74 = .ok (.if_icmp .ne 14, 3) := by decide +kernel
theorem d_bk_readPattern_77 : decode b_bk_readPattern 77 = .ok (.aload_n 0, 1) := by decide +kernel
theorem d_bk_readPattern_78 : decode b_bk_readPattern 78 = .ok (.getfield 36, 3) := by decide +kernel
theorem d_bk_readPattern_81 : decode b_bk_readPattern 81 = .ok (.iload_n 3, 1) := by decide +kernel
theorem d_bk_readPattern_82 : decode b_bk_readPattern 82 = .ok (.invokevirtual 136, 3) := by decide +kernel
theorem d_bk_readPattern_85 : decode b_bk_readPattern 85 = .ok (.ifCond .ne 5, 3) := by decide +kernel
theorem d_bk_readPattern_88 : decode b_bk_readPattern 88 = .ok (.iconst 0, 1) := by decide +kernel
theorem d_bk_readPattern_89 : decode b_bk_readPattern 89 = .ok (.ireturn, 1) := by decide +kernel
theorem d_bk_readPattern_90 : decode b_bk_readPattern 90 = .ok (.iconst 0, 1) := by decide +kernel
theorem d_bk_readPattern_91 : decode b_bk_readPattern 91 = .ok (.istore_n 1, 1) := by decide +kernel
theorem d_bk_readPattern_92 : decode b_bk_readPattern 92 = .ok (.iinc 2 1, 3) := by decide +kernel
theorem d_bk_readPattern_95 : decode b_bk_readPattern 95 = .ok (.goto (-84), 3) := by decide +kernel
theorem d_bk_readPattern_98 : decode b_bk_readPattern 98 = .ok (.aload_n 0, 1) := by decide +kernel
theorem d_bk_readPattern_99 : decode b_bk_readPattern 99 = .ok (.invokevirtual 139, 3) := by decide +kernel
theorem d_bk_readPattern_102 : decode b_bk_readPattern 102 = .ok (.aload_n 0, 1) := by decide +kernel
theorem d_bk_readPattern_103 : decode b_bk_readPattern 103 = .ok (.invokevirtual 142, 3) := by decide +kernel
theorem d_bk_readPattern_106 : decode b_bk_readPattern 106 = .ok (.ireturn, 1) := by decide +kernel
theorem d_rw_clear_0 : decode b_rw_clear 0 = .ok (.aload_n 0, 1) := by decide +kernel
theorem d_rw_clear_1 : decode b_rw_clear 1 = .ok (.iconst 0, 1) := by decide +kernel
theorem d_rw_clear_2 : decode b_rw_clear 2 = .ok (.putfield 18, 3) := by decide +kernel
theorem d_rw_clear_5 : decode b_rw_clear 5 = .ok (.aload_n 0, 1) := by decide +kernel
theorem d_rw_clear_6 : decode b_rw_clear 6 = .ok (.getfield 15, 3) := by decide +kernel
theorem d_rw_clear_9 : decode b_rw_clear 9 = .ok (.iconst 0, 1) := by decide +kernel
theorem d_rw_clear_10 : decode b_rw_clear 10 = .ok (.invokestatic 22, 3) := by decide +kernel
theorem d_rw_clear_13 : decode b_rw_clear 13 = .ok (.return_, 1) := by decide +kernel
theorem d_ar_fill_0 : decode b_ar_fill 0 = .ok (.iconst 0, 1) := by decide +kernel
theorem d_ar_fill_1 : decode b_ar_fill 1 = .ok (.istore_n 2, 1) := by decide +kernel
theorem d_ar_fill_2 : decode b_ar_fill 2 = .ok (.aload_n 0, 1) := by decide +kernel
theorem d_ar_fill_3 : decode b_ar_fill 3 = .ok (.arraylength, 1) := by decide +kernel
theorem d_ar_fill_4 : decode b_ar_fill 4 = .ok (.istore_n 3, 1) := by decide +kernel
theorem d_ar_fill_5 : decode b_ar_fill 5 = .ok (.iload_n 2, 1) := by decide +kernel
theorem d_ar_fill_6 : decode b_ar_fill 6 = .ok (.iload_n 3, 1) := by decide +kernel
theorem d_ar_fill_7 : decode b_ar_fill 7 = .ok (.if_icmp .ge 13, 3) := by decide +kernel
theorem d_ar_fill_10 : decode b_ar_fill 10 = .ok (.aload_n 0, 1) := by decide +kernel
theorem d_ar_fill_11 : decode b_ar_fill 11 = .ok (.iload_n 2, 1) := by decide +kernel
theorem d_ar_fill_12 : decode b_ar_fill 12 = .ok (.iload_n 1, 1) := by decide +kernel
theorem d_ar_fill_13 : decode b_ar_fill 13 = .ok (.iastore, 1) := by decide +kernel
theorem d_ar_fill_14 : decode b_ar_fill 14 = .ok (.iinc 2 1, 3) := by decide +kernel
theorem d_ar_fill_17 : decode b_ar_fill 17 = .ok (.goto (-12), 3) := by decide +kernel
theorem d_ar_fill_20 : decode b_ar_fill 20 = .ok (.return_, 1) := by decide +kernel
theorem d_bk_isDigit_0 : decode b_bk_isDigit 0 = .ok (.iload_n 0, 1) := by decide +kernel
theorem d_bk_isDigit_1 : decode b_bk_isDigit 1 = .ok (.bipush 48, 2) := by decide +kernel
theorem d_bk_isDigit_3 : decode b_bk_isDigit 3 = .ok (.if_icmp .lt 13, 3) := by decide +kernel
theorem d_bk_isDigit_6 : decode b_bk_isDigit 6 = .ok (.iload_n 0, 1) := by decide +kernel
theorem d_bk_isDigit_7 : decode b_bk_isDigit 7 = .ok (.bipush 57, 2) := by decide +kernel
theorem d_bk_isDigit_9 : decode b_bk_isDigit 9 = .ok (.if_icmp .gt 7, 3) := by decide +kernel
theorem d_bk_isDigit_12 : decode b_bk_isDigit 12 = .ok (.iconst 1, 1) := by decide +kernel
theorem d_bk_isDigit_13 : decode b_bk_isDigit 13 = .ok (.goto 4, 3) := by decide +kernel
theorem d_bk_isDigit_16 : decode b_bk_isDigit 16 = .ok (.iconst 0, 1) := by decide +kernel
theorem d_bk_isDigit_17 : decode b_bk_isDigit 17 = .ok (.ireturn, 1) := by decide +kernel
theorem d_rw_setNumber_0 : decode b_rw_setNumber 0 = .ok (.iload_n 1, 1) := by decide +kernel
theorem d_rw_setNumber_1 : decode b_rw_setNumber 1 = .ok (.ifCond .lt 19, 3) := by decide +kernel
theorem d_rw_setNumber_4 : decode b_rw_setNumber 4 = .ok (.iload_n 1, 1) := by decide +kernel
theorem d_rw_setNumber_5 : decode b_rw_setNumber 5 = .ok (.aload_n 0, 1) := by decide +kernel
theorem d_rw_setNumber_6 : decode b_rw_setNumber 6 = .ok (.getfield 15, 3) := by decide +kernel
theorem d_rw_setNumber_9 : decode b_rw_setNumber 9 = .ok (.arraylength, 1) := by decide +kernel
theorem d_rw_setNumber_10 : decode b_rw_setNumber 10 = .ok (.if_icmp .ge 10, 3) := by decide +kernel
theorem d_rw_setNumber_13 : decode b_rw_setNumber 13 = .ok (.aload_n 0, 1) := by decide +kernel
theorem d_rw_setNumber_14 : decode b_rw_setNumber 14 = .ok (.getfield 15, 3) := by decide +kernel
theorem d_rw_setNumber_17 : decode b_rw_setNumber 17 = .ok (.iload_n 1, 1) := by decide +kernel
theorem d_rw_setNumber_18 : decode b_rw_setNumber 18 = .ok (.iload_n 2, 1) := by decide +kernel
theorem d_rw_setNumber_19 : decode b_rw_setNumber 19 = .ok (.iastore, 1) := by decide +kernel
theorem d_rw_setNumber_20 : decode b_rw_setNumber 20 = .ok (.return_, 1) := by decide +kernel
theorem d_bk_isLetter_0 : decode b_bk_isLetter 0 = .ok (.iload_n 0, 1) := by decide +kernel
theorem d_bk_isLetter_1 : decode b_bk_isLetter 1 = .ok (.bipush 97, 2) := by decide +kernel
theorem d_bk_isLetter_3 : decode b_bk_isLetter 3 = .ok (.if_icmp .lt 9, 3) := by decide +kernel
theorem d_bk_isLetter_6 : decode b_bk_isLetter 6 = .ok (.iload_n 0, 1) := by decide +kernel
theorem d_bk_isLetter_7 : decode b_bk_isLetter 7 = .ok (.bipush 122, 2) := by decide +kernel
theorem d_bk_isLetter_9 : decode b_bk_isLetter 9 = .ok (.if_icmp .le 17, 3) := by decide +kernel
theorem d_bk_isLetter_12 : decode b_bk_isLetter 12 = .ok (.iload_n 0, 1) := by decide +kernel
theorem d_bk_isLetter_13 : decode b_bk_isLetter 13 = .ok (.sipush 128, 3) := by decide +kernel
theorem d_bk_isLetter_16 : decode b_bk_isLetter 16 = .ok (.if_icmp .lt 14, 3) := by decide +kernel
theorem d_bk_isLetter_19 : decode b_bk_isLetter 19 = .ok (.iload_n 0, 1) := by decide +kernel
theorem d_bk_isLetter_20 : decode b_bk_isLetter 20 = .ok (.sipush 255, 3) := by decide +kernel
theorem d_bk_isLetter_23 : decode b_bk_isLetter 23 = .ok (.if_icmp .gt 7, 3) := by decide +kernel
theorem d_bk_isLetter_26 : decode b_bk_isLetter 26 = .ok (.iconst 1, 1) := by decide +kernel
theorem d_bk_isLetter_27 : decode b_bk_isLetter 27 = .ok (.goto 4, 3) := by decide +kernel
theorem d_bk_isLetter_30 : decode b_bk_isLetter 30 = .ok (.iconst 0, 1) := by decide +kernel
theorem d_bk_isLetter_31 : decode b_bk_isLetter 31 = .ok (.ireturn, 1) := by decide +kernel
theorem d_rw_append_0 : decode b_rw_append 0 = .ok (.aload_n 0, 1) := by decide +kernel
theorem d_rw_append_1 : decode b_rw_append 1 = .ok (.getfield 18, 3) := by decide +kernel
theorem d_rw_append_4 : decode b_rw_append 4 = .ok (.aload_n 0, 1) := by decide +kernel
theorem d_rw_append_5 : decode b_rw_append 5 = .ok (.getfield 9, 3) := by decide +kernel
theorem d_rw_append_8 : decode b_rw_append 8 = .ok (.arraylength, 1) := by decide +kernel
theorem d_rw_append_9 : decode b_rw_append 9 = .ok (.if_icmp .lt 5, 3) := by decide +kernel
theorem d_rw_append_12 : decode b_rw_append 12 = .ok (.iconst 0, 1) := by decide +kernel
theorem d_rw_append_13 : decode b_rw_append 13 = .ok (.ireturn, 1) := by decide +kernel
theorem d_rw_append_14 : decode b_rw_append 14 = .ok (.aload_n 0, 1) := by decide +kernel
theorem d_rw_append_15 : decode b_rw_append 15 = .ok (.getfield 9, 3) := by decide +kernel
theorem d_rw_append_18 : decode b_rw_append 18 = .ok (.aload_n 0, 1) := by decide +kernel
theorem d_rw_append_19 : decode b_rw_append 19 = .ok (.getfield 18, 3) := by decide +kernel
theorem d_rw_append_22 : decode b_rw_append 22 = .ok (.iload_n 1, 1) := by decide +kernel
theorem d_rw_append_23 : decode b_rw_append 23 = .ok (.iastore, 1) := by decide +kernel
theorem d_rw_append_24 : decode b_rw_append 24 = .ok (.aload_n 0, 1) := by decide +kernel
theorem d_rw_append_25 : decode b_rw_append 25 = .ok (.dup, 1) := by decide +kernel
theorem d_rw_append_26 : decode b_rw_append 26 = .ok (.getfield 18, 3) := by decide +kernel
theorem d_rw_append_29 : decode b_rw_append 29 = .ok (.iconst 1, 1) := by decide +kernel
theorem d_rw_append_30 : decode b_rw_append 30 = .ok (.iadd, 1) := by decide +kernel
theorem d_rw_append_31 : decode b_rw_append 31 = .ok (.putfield 18, 3) := by decide +kernel
theorem d_rw_append_34 : decode b_rw_append 34 = .ok (.iconst 1, 1) := by decide +kernel
theorem d_rw_append_35 : decode b_rw_append 35 = .ok (.ireturn, 1) := by decide +kernel
theorem d_bk_dropNumbersOutsideEdges_0 : decode b_bk_dropNumbersOutsideEdges 0 = .ok (.aload_n 0, 1) := by decide +kernel
theorem d_bk_dropNumbersOutsideEdges_1 : decode b_bk_dropNumbersOutsideEdges 1 = .ok (.getfield 36, 3) := by decide +kernel
theorem d_bk_dropNumbersOutsideEdges_4 : decode b_bk_dropNumbersOutsideEdges 4 = .ok (.iconst 0, 1) := by decide +kernel
theorem d_bk_dropNumbersOutsideEdges_5 : decode b_bk_dropNumbersOutsideEdges 5 = .ok (.invokevirtual 145, 3) := by decide +kernel
theorem d_bk_dropNumbersOutsideEdges_8 : decode b_bk_dropNumbersOutsideEdges 8 = .ok (.bipush 46, 2) := by decide +kernel
theorem d_bk_dropNumbersOutsideEdges_10 : decode b_bk_dropNumbersOutsideEdges 10 = .ok (.if_icmp .ne 12, 3) := by decide +kernel
theorem d_bk_dropNumbersOutsideEdges_13 : decode b_bk_dropNumbersOutsideEdges 13 = .ok (.aload_n 0, 1) := by decide +kernel
theorem d_bk_dropNumbersOutsideEdges_14 : decode b_bk_dropNumbersOutsideEdges 14 = .ok (.getfield 36, 3) := by decide +kernel
theorem d_bk_dropNumbersOutsideEdges_17 : decode b_bk_dropNumbersOutsideEdges 17 = .ok (.iconst 0, 1) := by decide +kernel
theorem d_bk_dropNumbersOutsideEdges_18 : decode b_bk_dropNumbersOutsideEdges 18 = .ok (.iconst 0, 1) := by decide +kernel
theorem d_bk_dropNumbersOutsideEdges_19 : decode b_bk_dropNumbersOutsideEdges 19 = .ok (.invokevirtual 129, 3) := by decide +kernel
theorem d_bk_dropNumbersOutsideEdges_22 : decode b_bk_dropNumbersOutsideEdges 22 = .ok (.aload_n 0, 1) := by decide +kernel
theorem d_bk_dropNumbersOutsideEdges_23 : decode b_bk_dropNumbersOutsideEdges 23 = .ok (.getfield 36, 3) := by decide +kernel
theorem d_bk_dropNumbersOutsideEdges_26 : decode b_bk_dropNumbersOutsideEdges 26 = .ok (.aload_n 0, 1) := by decide +kernel
theorem d_bk_dropNumbersOutsideEdges_27 : decode b_bk_dropNumbersOutsideEdges 27 = .ok (.getfield 36, 3) := by decide +kernel
theorem d_bk_dropNumbersOutsideEdges_30 : decode b_bk_dropNumbersOutsideEdges 30 = .ok (.invokevirtual 126, 3) := by decide +kernel
theorem d_bk_dropNumbersOutsideEdges_33 : decode b_bk_dropNumbersOutsideEdges 33 = .ok (.iconst 1, 1) := by decide +kernel
theorem d_bk_dropNumbersOutsideEdges_34 : decode b_bk_dropNumbersOutsideEdges 34 = .ok (.isub, 1) := by decide +kernel
theorem d_bk_dropNumbersOutsideEdges_35 : decode b_bk_dropNumbersOutsideEdges 35 = .ok (.invokevirtual 145, 3) := by decide +kernel
theorem d_bk_dropNumbersOutsideEdges_38 : decode b_bk_dropNumbersOutsideEdges 38 = .ok (.bipush 46, 2) := by decide +kernel
theorem d_bk_dropNumbersOutsideEdges_40 : decode b_bk_dropNumbersOutsideEdges 40 = .ok (.if_icmp .ne 18, 3) := by decide +kernel
theorem d_bk_dropNumbersOutsideEdges_43 : decode b_bk_dropNumbersOutsideEdges 43 = .ok (.aload_n 0, 1) := by decide +kernel
theorem d_bk_dropNumbersOutsideEdges_44 : decode b_bk_dropNumbersOutsideEdges 44 = .ok (.getfield 36, 3) := by decide +kernel
theorem d_bk_dropNumbersOutsideEdges_47 : decode b_bk_dropNumbersOutsideEdges 47 = .ok (.aload_n 0, 1) := by decide +kernel
theorem d_bk_dropNumbersOutsideEdges_48 : decode b_bk_dropNumbersOutsideEdges 48 = .ok (.getfield 36, 3) := by decide +kernel
theorem d_bk_dropNumbersOutsideEdges_51 : decode b_bk_dropNumbersOutsideEdges 51 = .ok (.invokevirtual 126, 3) := by decide +kernel
theorem d_bk_dropNumbersOutsideEdges_54 : decode b_bk_dropNumbersOutsideEdges 54 = .ok (.iconst 0, 1) := by decide +kernel
theorem d_bk_dropNumbersOutsideEdges_55 : decode b_bk_dropNumbersOutsideEdges 55 = .ok (.invokevirtual 129, 3) := by decide +kernel
theorem d_bk_dropNumbersOutsideEdges_58 : decode b_bk_dropNumbersOutsideEdges 58 = .ok (.return_, 1) := by decide +kernel
theorem d_rw_signAt_0 : decode b_rw_signAt 0 = .ok (.iload_n 1, 1) := by decide +kernel
theorem d_rw_signAt_1 : decode b_rw_signAt 1 = .ok (.aload_n 0, 1) := by decide +kernel
theorem d_rw_signAt_2 : decode b_rw_signAt 2 = .ok (.getfield 18, 3) := by decide +kernel
theorem d_rw_signAt_5 : decode b_rw_signAt 5 = .ok (.if_icmp .ge 14, 3) := by decide +kernel
theorem d_rw_signAt_8 : decode b_rw_signAt 8 = .ok (.aload_n 0, 1) := by decide +kernel
theorem d_rw_signAt_9 : decode b_rw_signAt 9 = .ok (.getfield 9, 3) := by decide +kernel
theorem d_rw_signAt_12 : decode b_rw_signAt 12 = .ok (.iload_n 1, 1) := by decide +kernel
theorem d_rw_signAt_13 : decode b_rw_signAt 13 = .ok (.invokestatic 28, 3) := by decide +kernel
theorem d_rw_signAt_16 : decode b_rw_signAt 16 = .ok (.goto 4, 3) := by decide +kernel
theorem d_rw_signAt_19 : decode b_rw_signAt 19 = .ok (.iconst 0, 1) := by decide +kernel
theorem d_rw_signAt_20 : decode b_rw_signAt 20 = .ok (.ireturn, 1) := by decide +kernel
theorem d_bk_signsReadMakeAPattern_0 : decode b_bk_signsReadMakeAPattern 0 = .ok (.iconst 0, 1) := by decide +kernel
theorem d_bk_signsReadMakeAPattern_1 : decode b_bk_signsReadMakeAPattern 1 = .ok (.istore_n 1, 1) := by decide +kernel
theorem d_bk_signsReadMakeAPattern_2 : decode b_bk_signsReadMakeAPattern 2 = .ok (.iconst 0, 1) := by decide +kernel
theorem d_bk_signsReadMakeAPattern_3 : decode b_bk_signsReadMakeAPattern 3 = .ok (.istore_n 2, 1) := by decide +kernel
theorem d_bk_signsReadMakeAPattern_4 : decode b_bk_signsReadMakeAPattern 4 = .ok (.iload_n 2, 1) := by decide +kernel
theorem d_bk_signsReadMakeAPattern_5 : decode b_bk_signsReadMakeAPattern 5 = .ok (.aload_n 0, 1) := by decide +kernel
theorem d_bk_signsReadMakeAPattern_6 : decode b_bk_signsReadMakeAPattern 6 = .ok (.getfield 36, 3) := by decide +kernel
theorem d_bk_signsReadMakeAPattern_9 : decode b_bk_signsReadMakeAPattern 9 = .ok (.invokevirtual 126, 3) := by decide +kernel
theorem d_bk_signsReadMakeAPattern_12 : decode b_bk_signsReadMakeAPattern 12 = .ok (.if_icmp .ge 47, 3) := by decide +kernel
theorem d_bk_signsReadMakeAPattern_15 : decode b_bk_signsReadMakeAPattern 15 = .ok (.aload_n 0, 1) := by decide +kernel
theorem d_bk_signsReadMakeAPattern_16 : decode b_bk_signsReadMakeAPattern 16 = .ok (.getfield 36, 3) := by decide +kernel
theorem d_bk_signsReadMakeAPattern_19 : decode b_bk_signsReadMakeAPattern 19 = .ok (.iload_n 2, 1) := by decide +kernel
theorem d_bk_signsReadMakeAPattern_20 : decode b_bk_signsReadMakeAPattern 20 = .ok (.invokevirtual 145, 3) := by decide +kernel
theorem d_bk_signsReadMakeAPattern_23 : decode b_bk_signsReadMakeAPattern 23 = .ok (.bipush 46, 2) := by decide +kernel
theorem d_bk_signsReadMakeAPattern_25 : decode b_bk_signsReadMakeAPattern 25 = .ok (.if_icmp .eq 9, 3) := by decide +kernel
theorem d_bk_signsReadMakeAPattern_28 : decode b_bk_signsReadMakeAPattern 28 = .ok (.iinc 1 1, 3) := by decide +kernel
theorem d_bk_signsReadMakeAPattern_31 : decode b_bk_signsReadMakeAPattern 31 = .ok (.goto 22, 3) := by decide +kernel
theorem d_bk_signsReadMakeAPattern_34 : decode b_bk_signsReadMakeAPattern 34 = .ok (.iload_n 2, 1) := by decide +kernel
theorem d_bk_signsReadMakeAPattern_35 : decode b_bk_signsReadMakeAPattern 35 = .ok (.ifCond .eq 18, 3) := by decide +kernel
theorem d_bk_signsReadMakeAPattern_38 : decode b_bk_signsReadMakeAPattern 38 = .ok (.iload_n 2, 1) := by decide +kernel
theorem d_bk_signsReadMakeAPattern_39 : decode b_bk_signsReadMakeAPattern 39 = .ok (.aload_n 0, 1) := by decide +kernel
theorem d_bk_signsReadMakeAPattern_40 : decode b_bk_signsReadMakeAPattern 40 = .ok (.getfield 36, 3) := by decide +kernel
theorem d_bk_signsReadMakeAPattern_43 : decode b_bk_signsReadMakeAPattern 43 = .ok (.invokevirtual 126, 3) := by decide +kernel
theorem d_bk_signsReadMakeAPattern_46 : decode b_bk_signsReadMakeAPattern 46 = .ok (.iconst 1, 1) := by decide +kernel
theorem d_bk_signsReadMakeAPattern_47 : decode b_bk_signsReadMakeAPattern 47 = .ok (.isub, 1) := by decide +kernel
theorem d_bk_signsReadMakeAPattern_48 : decode b_bk_signsReadMakeAPattern 48 = .ok (.if_icmp .eq 5, 3) := by decide +kernel
theorem d_bk_signsReadMakeAPattern_51 : decode b_bk_signsReadMakeAPattern 51 = .ok (.iconst 0, 1) := by decide +kernel
theorem d_bk_signsReadMakeAPattern_52 : decode b_bk_signsReadMakeAPattern 52 = .ok (.ireturn, 1) := by decide +kernel
theorem d_bk_signsReadMakeAPattern_53 : decode b_bk_signsReadMakeAPattern 53 = .ok (.iinc 2 1, 3) := by decide +kernel
theorem d_bk_signsReadMakeAPattern_56 : decode b_bk_signsReadMakeAPattern 56 = .ok (.goto (-52), 3) := by decide +kernel
theorem d_bk_signsReadMakeAPattern_59 : decode b_bk_signsReadMakeAPattern 59 = .ok (.iload_n 1, 1) := by decide +kernel
theorem d_bk_signsReadMakeAPattern_60 : decode b_bk_signsReadMakeAPattern 60 = .ok (.iconst 1, 1) := by decide +kernel
theorem d_bk_signsReadMakeAPattern_61 : decode b_bk_signsReadMakeAPattern 61 = .ok (.if_icmp .lt 13, 3) := by decide +kernel
theorem d_bk_signsReadMakeAPattern_64 : decode b_bk_signsReadMakeAPattern 64 = .ok (.iload_n 1, 1) := by decide +kernel
theorem d_bk_signsReadMakeAPattern_65 : decode b_bk_signsReadMakeAPattern 65 = .ok (.bipush 63, 2) := by decide +kernel
theorem d_bk_signsReadMakeAPattern_67 : decode b_bk_signsReadMakeAPattern 67 = .ok (.if_icmp .gt 7, 3) := by decide +kernel
theorem d_bk_signsReadMakeAPattern_70 : decode b_bk_signsReadMakeAPattern 70 = .ok (.iconst 1, 1) := by decide +kernel
theorem d_bk_signsReadMakeAPattern_71 : decode b_bk_signsReadMakeAPattern 71 = .ok (.goto 4, 3) := by decide +kernel
theorem d_bk_signsReadMakeAPattern_74 : decode b_bk_signsReadMakeAPattern 74 = .ok (.iconst 0, 1) := by decide +kernel
theorem d_bk_signsReadMakeAPattern_75 : decode b_bk_signsReadMakeAPattern 75 = .ok (.ireturn, 1) := by decide +kernel
theorem d_tr_numbersOf_0 : decode b_tr_numbersOf 0 = .ok (.aload_n 0, 1) := by decide +kernel
theorem d_tr_numbersOf_1 : decode b_tr_numbersOf 1 = .ok (.getfield 12, 3) := by decide +kernel
theorem d_tr_numbersOf_4 : decode b_tr_numbersOf 4 = .ok (.astore_n 2, 1) := by decide +kernel
theorem d_tr_numbersOf_5 : decode b_tr_numbersOf 5 = .ok (.iconst 0, 1) := by decide +kernel
theorem d_tr_numbersOf_6 : decode b_tr_numbersOf 6 = .ok (.istore_n 3, 1) := by decide +kernel
theorem d_tr_numbersOf_7 : decode b_tr_numbersOf 7 = .ok (.iload_n 3, 1) := by decide +kernel
theorem d_tr_numbersOf_8 : decode b_tr_numbersOf 8 = .ok (.aload_n 1, 1) := by decide +kernel
theorem d_tr_numbersOf_9 : decode b_tr_numbersOf 9 = .ok (.invokevirtual 25, 3) := by decide +kernel
theorem d_tr_numbersOf_12 : decode b_tr_numbersOf 12 = .ok (.if_icmp .ge 25, 3) := by decide +kernel
theorem d_tr_numbersOf_15 : decode b_tr_numbersOf 15 = .ok (.aload_n 2, 1) := by decide +kernel
theorem d_tr_numbersOf_16 : decode b_tr_numbersOf 16 = .ok (.aload_n 1, 1) := by decide +kernel
theorem d_tr_numbersOf_17 : decode b_tr_numbersOf 17 = .ok (.iload_n 3, 1) := by decide +kernel
theorem d_tr_numbersOf_18 : decode b_tr_numbersOf 18 = .ok (.invokevirtual 31, 3) := by decide +kernel
theorem d_tr_numbersOf_21 : decode b_tr_numbersOf 21 = .ok (.invokevirtual 35, 3) := by decide +kernel
theorem d_tr_numbersOf_24 : decode b_tr_numbersOf 24 = .ok (.astore_n 2, 1) := by decide +kernel
theorem d_tr_numbersOf_25 : decode b_tr_numbersOf 25 = .ok (.aload_n 2, 1) := by decide +kernel
theorem d_tr_numbersOf_26 : decode b_tr_numbersOf 26 = .ok (.ifnonnull 5, 3) := by decide +kernel
theorem d_tr_numbersOf_29 : decode b_tr_numbersOf 29 = .ok (.aconst_null, 1) := by decide +kernel
theorem d_tr_numbersOf_30 : decode b_tr_numbersOf 30 = .ok (.areturn, 1) := by decide +kernel
theorem d_tr_numbersOf_31 : decode b_tr_numbersOf 31 = .ok (.iinc 3 1, 3) := by decide +kernel
theorem d_tr_numbersOf_34 : decode b_tr_numbersOf 34 = .ok (.goto (-27), 3) := by decide +kernel
theorem d_tr_numbersOf_37 : decode b_tr_numbersOf 37 = .ok (.aload_n 2, 1) := by decide +kernel
theorem d_tr_numbersOf_38 : decode b_tr_numbersOf 38 = .ok (.getfield 39, 3) := by decide +kernel
theorem d_tr_numbersOf_41 : decode b_tr_numbersOf 41 = .ok (.areturn, 1) := by decide +kernel
theorem d_nd_childWith_0 : decode b_nd_childWith 0 = .ok (.aload_n 0, 1) := by decide +kernel
theorem d_nd_childWith_1 : decode b_nd_childWith 1 = .ok (.getfield 7, 3) := by decide +kernel
theorem d_nd_childWith_4 : decode b_nd_childWith 4 = .ok (.astore_n 2, 1) := by decide +kernel
theorem d_nd_childWith_5 : decode b_nd_childWith 5 = .ok (.aload_n 2, 1) := by decide +kernel
theorem d_nd_childWith_6 : decode b_nd_childWith 6 = .ok (.ifnull 21, 3) := by decide +kernel
theorem d_nd_childWith_9 : decode b_nd_childWith 9 = .ok (.aload_n 2, 1) := by decide +kernel
theorem d_nd_childWith_10 : decode b_nd_childWith 10 = .ok (.getfield 20, 3) := by decide +kernel
theorem d_nd_childWith_13 : decode b_nd_childWith 13 = .ok (.iload_n 1, 1) := by decide +kernel
theorem d_nd_childWith_14 : decode b_nd_childWith 14 = .ok (.if_icmp .ne 5, 3) := by decide +kernel
theorem d_nd_childWith_17 : decode b_nd_childWith 17 = .ok (.aload_n 2, 1) := by decide +kernel
theorem d_nd_childWith_18 : decode b_nd_childWith 18 = .ok (.areturn, 1) := by decide +kernel
theorem d_nd_childWith_19 : decode b_nd_childWith 19 = .ok (.aload_n 2, 1) := by decide +kernel
theorem d_nd_childWith_20 : decode b_nd_childWith 20 = .ok (.getfield 13, 3) := by decide +kernel
theorem d_nd_childWith_23 : decode b_nd_childWith 23 = .ok (.astore_n 2, 1) := by decide +kernel
theorem d_nd_childWith_24 : decode b_nd_childWith 24 = .ok (.goto (-19), 3) := by decide +kernel
theorem d_nd_childWith_27 : decode b_nd_childWith 27 = .ok (.aconst_null, 1) := by decide +kernel
theorem d_nd_childWith_28 : decode b_nd_childWith 28 = .ok (.areturn, 1) := by decide +kernel
theorem d_tr_beginningsWith_0 : decode b_tr_beginningsWith 0 = .ok (.aload_n 0, 1) := by decide +kernel
theorem d_tr_beginningsWith_1 : decode b_tr_beginningsWith 1 = .ok (.getfield 12, 3) := by decide +kernel
theorem d_tr_beginningsWith_4 : decode b_tr_beginningsWith 4 = .ok (.astore_n 2, 1) := by decide +kernel
theorem d_tr_beginningsWith_5 : decode b_tr_beginningsWith 5 = .ok (.iconst 0, 1) := by decide +kernel
theorem d_tr_beginningsWith_6 : decode b_tr_beginningsWith 6 = .ok (.istore_n 3, 1) := by decide +kernel
theorem d_tr_beginningsWith_7 : decode b_tr_beginningsWith 7 = .ok (.iload_n 3, 1) := by decide +kernel
theorem d_tr_beginningsWith_8 : decode b_tr_beginningsWith 8 = .ok (.aload_n 1, 1) := by decide +kernel
theorem d_tr_beginningsWith_9 : decode b_tr_beginningsWith 9 = .ok (.invokevirtual 25, 3) := by decide +kernel
theorem d_tr_beginningsWith_12 : decode b_tr_beginningsWith 12 = .ok (.if_icmp .ge 35, 3) := by decide +kernel
theorem d_tr_beginningsWith_15 : decode b_tr_beginningsWith 15 = .ok (.aload_n 2, 1) := by decide +kernel
theorem d_tr_beginningsWith_16 : decode b_tr_beginningsWith 16 = .ok (.aload_n 1, 1) := by decide +kernel
theorem d_tr_beginningsWith_17 : decode b_tr_beginningsWith 17 = .ok (.iload_n 3, 1) := by decide +kernel
theorem d_tr_beginningsWith_18 : decode b_tr_beginningsWith 18 = .ok (.invokevirtual 31, 3) := by decide +kernel
theorem d_tr_beginningsWith_21 : decode b_tr_beginningsWith 21 = .ok (.invokevirtual 35, 3) := by decide +kernel
theorem d_tr_beginningsWith_24 : decode b_tr_beginningsWith 24 = .ok (.astore_n 2, 1) := by decide +kernel
theorem d_tr_beginningsWith_25 : decode b_tr_beginningsWith 25 = .ok (.aload_n 2, 1) := by decide +kernel
theorem d_tr_beginningsWith_26 : decode b_tr_beginningsWith 26 = .ok (.ifnonnull 15, 3) := by decide +kernel
theorem d_tr_beginningsWith_29 : decode b_tr_beginningsWith 29 = .ok (.aload_n 0, 1) := by decide +kernel
theorem d_tr_beginningsWith_30 : decode b_tr_beginningsWith 30 = .ok (.getfield 22, 3) := by decide +kernel
theorem d_tr_beginningsWith_33 : decode b_tr_beginningsWith 33 = .ok (.aload_n 1, 1) := by decide +kernel
theorem d_tr_beginningsWith_34 : decode b_tr_beginningsWith 34 = .ok (.invokevirtual 25, 3) := by decide +kernel
theorem d_tr_beginningsWith_37 : decode b_tr_beginningsWith 37 = .ok (.iadd, 1) := by decide +kernel
theorem d_tr_beginningsWith_38 : decode b_tr_beginningsWith 38 = .ok (.iload_n 3, 1) := by decide +kernel
theorem d_tr_beginningsWith_39 : decode b_tr_beginningsWith 39 = .ok (.isub, 1) := by decide +kernel
theorem d_tr_beginningsWith_40 : decode b_tr_beginningsWith 40 = .ok (.ireturn, 1) := by decide +kernel
theorem d_tr_beginningsWith_41 : decode b_tr_beginningsWith 41 = .ok (.iinc 3 1, 3) := by decide +kernel
theorem d_tr_beginningsWith_44 : decode b_tr_beginningsWith 44 = .ok (.goto (-37), 3) := by decide +kernel
theorem d_tr_beginningsWith_47 : decode b_tr_beginningsWith 47 = .ok (.aload_n 0, 1) := by decide +kernel
theorem d_tr_beginningsWith_48 : decode b_tr_beginningsWith 48 = .ok (.getfield 22, 3) := by decide +kernel
theorem d_tr_beginningsWith_51 : decode b_tr_beginningsWith 51 = .ok (.ireturn, 1) := by decide +kernel
theorem d_tr_enter_0 : decode b_tr_enter 0 = .ok (.aload_n 0, 1) := by decide +kernel
theorem d_tr_enter_1 : decode b_tr_enter 1 = .ok (.getfield 12, 3) := by decide +kernel
theorem d_tr_enter_4 : decode b_tr_enter 4 = .ok (.astore_n 2, 1) := by decide +kernel
theorem d_tr_enter_5 : decode b_tr_enter 5 = .ok (.iconst 0, 1) := by decide +kernel
theorem d_tr_enter_6 : decode b_tr_enter 6 = .ok (.istore_n 3, 1) := by decide +kernel
theorem d_tr_enter_7 : decode b_tr_enter 7 = .ok (.iload_n 3, 1) := by decide +kernel
theorem d_tr_enter_8 : decode b_tr_enter 8 = .ok (.aload_n 1, 1) := by decide +kernel
theorem d_tr_enter_9 : decode b_tr_enter 9 = .ok (.invokevirtual 25, 3) := by decide +kernel
theorem d_tr_enter_12 : decode b_tr_enter 12 = .ok (.if_icmp .ge 49, 3) := by decide +kernel
theorem d_tr_enter_15 : decode b_tr_enter 15 = .ok (.aload_n 2, 1) := by decide +kernel
theorem d_tr_enter_16 : decode b_tr_enter 16 = .ok (.aload_n 1, 1) := by decide +kernel
theorem d_tr_enter_17 : decode b_tr_enter 17 = .ok (.iload_n 3, 1) := by decide +kernel
theorem d_tr_enter_18 : decode b_tr_enter 18 = .ok (.invokevirtual 31, 3) := by decide +kernel
theorem d_tr_enter_21 : decode b_tr_enter 21 = .ok (.invokevirtual 35, 3) := by decide +kernel
theorem d_tr_enter_24 : decode b_tr_enter 24 = .ok (.astore 4, 2) := by decide +kernel
theorem d_tr_enter_26 : decode b_tr_enter 26 = .ok (.aload 4, 2) := by decide +kernel
theorem d_tr_enter_28 : decode b_tr_enter 28 = .ok (.ifnonnull 24, 3) := by decide +kernel
theorem d_tr_enter_31 : decode b_tr_enter 31 = .ok (.aload_n 2, 1) := by decide +kernel
theorem d_tr_enter_32 : decode b_tr_enter 32 = .ok (.aload_n 1, 1) := by decide +kernel
theorem d_tr_enter_33 : decode b_tr_enter 33 = .ok (.iload_n 3, 1) := by decide +kernel
theorem d_tr_enter_34 : decode b_tr_enter 34 = .ok (.invokevirtual 31, 3) := by decide +kernel
theorem d_tr_enter_37 : decode b_tr_enter 37 = .ok (.invokevirtual 43, 3) := by decide +kernel
theorem d_tr_enter_40 : decode b_tr_enter 40 = .ok (.astore 4, 2) := by decide +kernel
theorem d_tr_enter_42 : decode b_tr_enter 42 = .ok (.aload_n 0, 1) := by decide +kernel
theorem d_tr_enter_43 : decode b_tr_enter 43 = .ok (.dup, 1) := by decide +kernel
theorem d_tr_enter_44 : decode b_tr_enter 44 = .ok (.getfield 22, 3) := by decide +kernel
theorem d_tr_enter_47 : decode b_tr_enter 47 = .ok (.iconst 1, 1) := by decide +kernel
theorem d_tr_enter_48 : decode b_tr_enter 48 = .ok (.iadd, 1) := by decide +kernel
theorem d_tr_enter_49 : decode b_tr_enter 49 = .ok (.putfield 22, 3) := by decide +kernel
theorem d_tr_enter_52 : decode b_tr_enter 52 = .ok (.aload 4, 2) := by decide +kernel
theorem d_tr_enter_54 : decode b_tr_enter 54 = .ok (.astore_n 2, 1) := by decide +kernel
theorem d_tr_enter_55 : decode b_tr_enter 55 = .ok (.iinc 3 1, 3) := by decide +kernel
theorem d_tr_enter_58 : decode b_tr_enter 58 = .ok (.goto (-51), 3) := by decide +kernel
theorem d_tr_enter_61 : decode b_tr_enter 61 = .ok (.aload_n 2, 1) := by decide +kernel
theorem d_tr_enter_62 : decode b_tr_enter 62 = .ok (.getfield 39, 3) := by decide +kernel
theorem d_tr_enter_65 : decode b_tr_enter 65 = .ok (.ifnonnull 13, 3) := by decide +kernel
theorem d_tr_enter_68 : decode b_tr_enter 68 = .ok (.aload_n 0, 1) := by decide +kernel
theorem d_tr_enter_69 : decode b_tr_enter 69 = .ok (.dup, 1) := by decide +kernel
theorem d_tr_enter_70 : decode b_tr_enter 70 = .ok (.getfield 18, 3) := by decide +kernel
theorem d_tr_enter_73 : decode b_tr_enter 73 = .ok (.iconst 1, 1) := by decide +kernel
theorem d_tr_enter_74 : decode b_tr_enter 74 = .ok (.iadd, 1) := by decide +kernel
theorem d_tr_enter_75 : decode b_tr_enter 75 = .ok (.putfield 18, 3) := by decide +kernel
theorem d_tr_enter_78 : decode b_tr_enter 78 = .ok (.aload_n 2, 1) := by decide +kernel
theorem d_tr_enter_79 : decode b_tr_enter 79 = .ok (.aload_n 1, 1) := by decide +kernel
theorem d_tr_enter_80 : decode b_tr_enter 80 = .ok (.invokevirtual 46, 3) := by decide +kernel
theorem d_tr_enter_83 : decode b_tr_enter 83 = .ok (.putfield 39, 3) := by decide +kernel
theorem d_tr_enter_86 : decode b_tr_enter 86 = .ok (.return_, 1) := by decide +kernel
theorem d_nd_newChild_0 : decode b_nd_newChild 0 = .ok (.new 8, 3) := by decide +kernel
theorem d_nd_newChild_3 : decode b_nd_newChild 3 = .ok (.dup, 1) := by decide +kernel
theorem d_nd_newChild_4 : decode b_nd_newChild 4 = .ok (.iload_n 1, 1) := by decide +kernel
theorem d_nd_newChild_5 : decode b_nd_newChild 5 = .ok (.invokespecial 24, 3) := by decide +kernel
theorem d_nd_newChild_8 : decode b_nd_newChild 8 = .ok (.astore_n 2, 1) := by decide +kernel
theorem d_nd_newChild_9 : decode b_nd_newChild 9 = .ok (.aload_n 2, 1) := by decide +kernel
theorem d_nd_newChild_10 : decode b_nd_newChild 10 = .ok (.aload_n 0, 1) := by decide +kernel
theorem d_nd_newChild_11 : decode b_nd_newChild 11 = .ok (.getfield 7, 3) := by decide +kernel
theorem d_nd_newChild_14 : decode b_nd_newChild 14 = .ok (.putfield 13, 3) := by decide +kernel
theorem d_nd_newChild_17 : decode b_nd_newChild 17 = .ok (.aload_n 0, 1) := by decide +kernel
theorem d_nd_newChild_18 : decode b_nd_newChild 18 = .ok (.aload_n 2, 1) := by decide +kernel
theorem d_nd_newChild_19 : decode b_nd_newChild 19 = .ok (.putfield 7, 3) := by decide +kernel
theorem d_nd_newChild_22 : decode b_nd_newChild 22 = .ok (.aload_n 2, 1) := by decide +kernel
theorem d_nd_newChild_23 : decode b_nd_newChild 23 = .ok (.areturn, 1) := by decide +kernel
theorem d_rw_copyOfNumbers_0 : decode b_rw_copyOfNumbers 0 = .ok (.aload_n 0, 1) := by decide +kernel
theorem d_rw_copyOfNumbers_1 : decode b_rw_copyOfNumbers 1 = .ok (.getfield 15, 3) := by decide +kernel
theorem d_rw_copyOfNumbers_4 : decode b_rw_copyOfNumbers 4 = .ok (.invokevirtual 40, 3) := by decide +kernel
theorem d_rw_copyOfNumbers_7 : decode b_rw_copyOfNumbers 7 = .ok (.checkcast 41, 3) := by decide +kernel
theorem d_rw_copyOfNumbers_10 : decode b_rw_copyOfNumbers 10 = .ok (.areturn, 1) := by decide +kernel
theorem d_lw_exception_0 : decode b_lw_exception 0 = .ok (.aload_n 1, 1) := by decide +kernel
theorem d_lw_exception_1 : decode b_lw_exception 1 = .ok (.iconst 0, 1) := by decide +kernel
theorem d_lw_exception_2 : decode b_lw_exception 2 = .ok (.aload_n 0, 1) := by decide +kernel
theorem d_lw_exception_3 : decode b_lw_exception 3 = .ok (.invokevirtual 17, 3) := by decide +kernel
theorem d_lw_exception_6 : decode b_lw_exception 6 = .ok (.i2l, 1) := by decide +kernel
theorem d_lw_exception_7 : decode b_lw_exception 7 = .ok (.lastore, 1) := by decide +kernel
theorem d_lw_exception_8 : decode b_lw_exception 8 = .ok (.goto 9, 3) := by decide +kernel
theorem d_lw_exception_11 : decode b_lw_exception 11 = .ok (.astore_n 2, 1) := by decide +kernel
theorem d_lw_exception_12 : decode b_lw_exception 12 = .ok (.iconst 1, 1) := by decide +kernel
theorem d_lw_exception_13 : decode b_lw_exception 13 = .ok (.ireturn, 1) := by decide +kernel
theorem d_lw_exception_14 : decode b_lw_exception 14 = .ok (.astore_n 2, 1) := by decide +kernel
theorem d_lw_exception_15 : decode b_lw_exception 15 = .ok (.iconst 2, 1) := by decide +kernel
theorem d_lw_exception_16 : decode b_lw_exception 16 = .ok (.ireturn, 1) := by decide +kernel
theorem d_lw_exception_17 : decode b_lw_exception 17 = .ok (.iconst 0, 1) := by decide +kernel
theorem d_lw_exception_18 : decode b_lw_exception 18 = .ok (.ireturn, 1) := by decide +kernel
theorem d_bk_exception_0 : decode b_bk_exception 0 = .ok (.aload_n 0, 1) := by decide +kernel
theorem d_bk_exception_1 : decode b_bk_exception 1 = .ok (.invokevirtual 80, 3) := by decide +kernel
theorem d_bk_exception_4 : decode b_bk_exception 4 = .ok (.istore_n 1, 1) := by decide +kernel
theorem d_bk_exception_5 : decode b_bk_exception 5 = .ok (.aload_n 0, 1) := by decide +kernel
theorem d_bk_exception_6 : decode b_bk_exception 6 = .ok (.iconst 0, 1) := by decide +kernel
theorem d_bk_exception_7 : decode b_bk_exception 7 = .ok (.putfield 13, 3) := by decide +kernel
theorem d_bk_exception_10 : decode b_bk_exception 10 = .ok (.iload_n 1, 1) := by decide +kernel
theorem d_bk_exception_11 : decode b_bk_exception 11 = .ok (.ifCond .ne 13, 3) := by decide +kernel
theorem d_bk_exception_14 : decode b_bk_exception 14 = .ok (.new 47, 3) := by decide +kernel
theorem d_bk_exception_17 : decode b_bk_exception 17 = .ok (.dup, 1) := by decide +kernel
theorem d_bk_exception_18 : decode b_bk_exception 18 = .ok (.ldc 83, 2) := by decide +kernel
theorem d_bk_exception_20 : decode b_bk_exception 20 = .ok (.invokespecial 51, 3) := by decide +kernel
theorem d_bk_exception_23 : decode b_bk_exception 23 = .ok (.athrow, 1) := by decide +kernel
theorem d_bk_exception_24 : decode b_bk_exception 24 = .ok (.aload_n 0, 1) := by decide +kernel
theorem d_bk_exception_25 : decode b_bk_exception 25 = .ok (.getfield 30, 3) := by decide +kernel
theorem d_bk_exception_28 : decode b_bk_exception 28 = .ok (.aload_n 0, 1) := by decide +kernel
theorem d_bk_exception_29 : decode b_bk_exception 29 = .ok (.getfield 36, 3) := by decide +kernel
theorem d_bk_exception_32 : decode b_bk_exception 32 = .ok (.invokevirtual 54, 3) := by decide +kernel
theorem d_bk_exception_35 : decode b_bk_exception 35 = .ok (.ifnonnull 26, 3) := by decide +kernel
theorem d_bk_exception_38 : decode b_bk_exception 38 = .ok (.aload_n 0, 1) := by decide +kernel
theorem d_bk_exception_39 : decode b_bk_exception 39 = .ok (.getfield 30, 3) := by decide +kernel
theorem d_bk_exception_42 : decode b_bk_exception 42 = .ok (.invokevirtual 63, 3) := by decide +kernel
theorem d_bk_exception_45 : decode b_bk_exception 45 = .ok (.sipush 2048, 3) := by decide +kernel
theorem d_bk_exception_48 : decode b_bk_exception 48 = .ok (.if_icmp .lt 13, 3) := by decide +kernel
theorem d_bk_exception_51 : decode b_bk_exception 51 = .ok (.new 58, 3) := by decide +kernel
theorem d_bk_exception_54 : decode b_bk_exception 54 = .ok (.dup, 1) := by decide +kernel
theorem d_bk_exception_55 : decode b_bk_exception 55 = .ok (.ldc 85, 2) := by decide +kernel
theorem d_bk_exception_57 : decode b_bk_exception 57 = .ok (.invokespecial 62, 3) := by decide +kernel
theorem d_bk_exception_60 : decode b_bk_exception 60 = .ok (.athrow, 1) := by decide +kernel
theorem d_bk_exception_61 : decode b_bk_exception 61 = .ok (.aload_n 0, 1) := by decide +kernel
theorem d_bk_exception_62 : decode b_bk_exception 62 = .ok (.getfield 30, 3) := by decide +kernel
theorem d_bk_exception_65 : decode b_bk_exception 65 = .ok (.aload_n 0, 1) := by decide +kernel
theorem d_bk_exception_66 : decode b_bk_exception 66 = .ok (.getfield 36, 3) := by decide +kernel
theorem d_bk_exception_69 : decode b_bk_exception 69 = .ok (.invokevirtual 76, 3) := by decide +kernel
theorem d_bk_exception_72 : decode b_bk_exception 72 = .ok (.aload_n 0, 1) := by decide +kernel
theorem d_bk_exception_73 : decode b_bk_exception 73 = .ok (.getfield 30, 3) := by decide +kernel
theorem d_bk_exception_76 : decode b_bk_exception 76 = .ok (.invokevirtual 63, 3) := by decide +kernel
theorem d_bk_exception_79 : decode b_bk_exception 79 = .ok (.ireturn, 1) := by decide +kernel
theorem d_bk_readException_0 : decode b_bk_readException 0 = .ok (.aload_n 0, 1) := by decide +kernel
theorem d_bk_readException_1 : decode b_bk_readException 1 = .ok (.getfield 36, 3) := by decide +kernel
theorem d_bk_readException_4 : decode b_bk_readException 4 = .ok (.invokevirtual 115, 3) := by decide +kernel
theorem d_bk_readException_7 : decode b_bk_readException 7 = .ok (.aload_n 0, 1) := by decide +kernel
theorem d_bk_readException_8 : decode b_bk_readException 8 = .ok (.getfield 36, 3) := by decide +kernel
theorem d_bk_readException_11 : decode b_bk_readException 11 = .ok (.bipush 46, 2) := by decide +kernel
theorem d_bk_readException_13 : decode b_bk_readException 13 = .ok (.invokevirtual 136, 3) := by decide +kernel
theorem d_bk_readException_16 : decode b_bk_readException 16 = .ok (.pop, 1) := by decide +kernel
theorem d_bk_readException_17 : decode b_bk_readException 17 = .ok (.iconst 0, 1) := by decide +kernel
theorem d_bk_readException_18 : decode b_bk_readException 18 = .ok (.istore_n 1, 1) := by decide +kernel
theorem d_bk_readException_19 : decode b_bk_readException 19 = .ok (.iconst 0, 1) := by decide +kernel
theorem d_bk_readException_20 : decode b_bk_readException 20 = .ok (.istore_n 2, 1) := by decide +kernel
theorem d_bk_readException_21 : decode b_bk_readException 21 = .ok (.iload_n 2, 1) := by decide +kernel
theorem d_bk_readException_22 : decode b_bk_readException 22 = .ok (.aload_n 0, 1) := by decide +kernel
theorem d_bk_readException_23 : decode b_bk_readException 23 = .ok (.getfield 13, 3) := by decide +kernel
theorem d_bk_readException_26 : decode b_bk_readException 26 = .ok (.if_icmp .ge 70, 3) := by decide +kernel
theorem d_bk_readException_29 : decode b_bk_readException 29 = .ok (.aload_n 0, 1) := by decide +kernel
theorem d_bk_readException_30 : decode b_bk_readException 30 = .ok (.getfield 9, 3) := by decide +kernel
theorem d_bk_readException_33 : decode b_bk_readException 33 = .ok (.iload_n 2, 1) := by decide +kernel
theorem d_bk_readException_34 : decode b_bk_readException 34 = .ok (.invokestatic 118, 3) := by decide +kernel
theorem d_bk_readException_37 : decode b_bk_readException 37 = .ok (.istore_n 3, 1) := by decide +kernel
theorem d_bk_readException_38 : decode b_bk_readException 38 = .ok (.iload_n 3, 1) := by decide +kernel
theorem d_bk_readException_39 : decode b_bk_readException 39 = .ok (.bipush 45, 2) := by decide +kernel
theorem d_bk_readException_41 : decode b_bk_readException 41 = .ok (.if_icmp .ne 27, 3) := by decide +kernel
theorem d_bk_readException_44 : decode b_bk_readException 44 = .ok (.iload_n 1, 1) := by decide +kernel
theorem d_bk_readException_45 : decode b_bk_readException 45 = .ok (.ifCond .eq 23, 3) := by decide +kernel
theorem d_bk_readException_48 : decode b_bk_readException 48 = .ok (.aload_n 0, 1) := by decide +kernel
theorem d_bk_readException_49 : decode b_bk_readException 49 = .ok (.getfield 36, 3) := by decide +kernel
theorem d_bk_readException_52 : decode b_bk_readException 52 = .ok (.aload_n 0, 1) := by decide +kernel
theorem d_bk_readException_53 : decode b_bk_readException 53 = .ok (.getfield 36, 3) := by decide +kernel
theorem d_bk_readException_56 : decode b_bk_readException 56 = .ok (.invokevirtual 126, 3) := by decide +kernel
theorem d_bk_readException_59 : decode b_bk_readException 59 = .ok (.iconst 1, 1) := by decide +kernel
theorem d_bk_readException_60 : decode b_bk_readException 60 = .ok (.invokevirtual 129, 3) := by decide +kernel
theorem d_bk_readException_63 : decode b_bk_readException 63 = .ok (.iconst 0, 1) := by decide +kernel
theorem d_bk_readException_64 : decode b_bk_readException 64 = .ok (.istore_n 1, 1) := by decide +kernel
theorem d_bk_readException_65 : decode b_bk_readException 65 = .ok (.goto 25, 3) := by decide +kernel
theorem d_bk_readException_68 : decode b_bk_readException 68 = .ok (.iload_n 3, 1) := by decide +kernel
theorem d_bk_readException_69 : decode b_bk_readException 69 = .ok (.invokestatic 133, 3) := by decide +kernel
theorem d_bk_readException_72 : decode b_bk_readException 72 = .ok (.ifCond .eq 14, 3) := by decide +kernel
theorem d_bk_readException_75 : decode b_bk_readException 75 = .ok (.aload_n 0, 1) := by decide +kernel
theorem d_bk_readException_76 : decode b_bk_readException 76 = .ok (.getfield 36, 3) := by decide +kernel
theorem d_bk_readException_79 : decode b_bk_readException 79 = .ok (.iload_n 3, 1) := by decide +kernel
theorem d_bk_readException_80 : decode b_bk_readException 80 = .ok (.invokevirtual 136, 3) := by decide +kernel
theorem d_bk_readException_83 : decode b_bk_readException 83 = .ok (.ifCond .ne 5, 3) := by decide +kernel
theorem d_bk_readException_86 : decode b_bk_readException 86 = .ok (.iconst 0, 1) := by decide +kernel
theorem d_bk_readException_87 : decode b_bk_readException 87 = .ok (.ireturn, 1) := by decide +kernel
theorem d_bk_readException_88 : decode b_bk_readException 88 = .ok (.iconst 1, 1) := by decide +kernel
theorem d_bk_readException_89 : decode b_bk_readException 89 = .ok (.istore_n 1, 1) := by decide +kernel
theorem d_bk_readException_90 : decode b_bk_readException 90 = .ok (.iinc 2 1, 3) := by decide +kernel
theorem d_bk_readException_93 : decode b_bk_readException 93 = .ok (.goto (-72), 3) := by decide +kernel
theorem d_bk_readException_96 : decode b_bk_readException 96 = .ok (.iload_n 1, 1) := by decide +kernel
theorem d_bk_readException_97 : decode b_bk_readException 97 = .ok (.ifCond .eq 19, 3) := by decide +kernel
theorem d_bk_readException_100 : decode b_bk_readException 100 = .ok (.aload_n 0, 1) := by decide +kernel
theorem d_bk_readException_101 : decode b_bk_readException 101 = .ok (.getfield 36, 3) := by decide +kernel
theorem d_bk_readException_104 : decode b_bk_readException 104 = .ok (.bipush 46, 2) := by decide +kernel
theorem d_bk_readException_106 : decode b_bk_readException 106 = .ok (.invokevirtual 136, 3) := by decide +kernel
theorem d_bk_readException_109 : decode b_bk_readException 109 = .ok (.ifCond .eq 7, 3) := by decide +kernel
theorem d_bk_readException_112 : decode b_bk_readException 112 = .ok (.iconst 1, 1) := by decide +kernel
theorem d_bk_readException_113 : decode b_bk_readException 113 = .ok (.goto 4, 3) := by decide +kernel
theorem d_bk_readException_116 : decode b_bk_readException 116 = .ok (.iconst 0, 1) := by decide +kernel
theorem d_bk_readException_117 : decode b_bk_readException 117 = .ok (.ireturn, 1) := by decide +kernel
theorem d_lw_word_0 : decode b_lw_word 0 = .ok (.aload_n 1, 1) := by decide +kernel
theorem d_lw_word_1 : decode b_lw_word 1 = .ok (.iconst 0, 1) := by decide +kernel
theorem d_lw_word_2 : decode b_lw_word 2 = .ok (.aload_n 0, 1) := by decide +kernel
theorem d_lw_word_3 : decode b_lw_word 3 = .ok (.invokevirtual 20, 3) := by decide +kernel
theorem d_lw_word_6 : decode b_lw_word 6 = .ok (.lastore, 1) := by decide +kernel
theorem d_lw_word_7 : decode b_lw_word 7 = .ok (.goto 6, 3) := by decide +kernel
theorem d_lw_word_10 : decode b_lw_word 10 = .ok (.astore_n 2, 1) := by decide +kernel
theorem d_lw_word_11 : decode b_lw_word 11 = .ok (.iconst 1, 1) := by decide +kernel
theorem d_lw_word_12 : decode b_lw_word 12 = .ok (.ireturn, 1) := by decide +kernel
theorem d_lw_word_13 : decode b_lw_word 13 = .ok (.iconst 0, 1) := by decide +kernel
theorem d_lw_word_14 : decode b_lw_word 14 = .ok (.ireturn, 1) := by decide +kernel
theorem d_bk_word_0 : decode b_bk_word 0 = .ok (.aload_n 0, 1) := by decide +kernel
theorem d_bk_word_1 : decode b_bk_word 1 = .ok (.invokevirtual 87, 3) := by decide +kernel
theorem d_bk_word_4 : decode b_bk_word 4 = .ok (.istore_n 1, 1) := by decide +kernel
theorem d_bk_word_5 : decode b_bk_word 5 = .ok (.iload_n 1, 1) := by decide +kernel
theorem d_bk_word_6 : decode b_bk_word 6 = .ok (.ifCond .eq 7, 3) := by decide +kernel
theorem d_bk_word_9 : decode b_bk_word 9 = .ok (.aload_n 0, 1) := by decide +kernel
theorem d_bk_word_10 : decode b_bk_word 10 = .ok (.invokevirtual 90, 3) := by decide +kernel
theorem d_bk_word_13 : decode b_bk_word 13 = .ok (.aload_n 0, 1) := by decide +kernel
theorem d_bk_word_14 : decode b_bk_word 14 = .ok (.iconst 0, 1) := by decide +kernel
theorem d_bk_word_15 : decode b_bk_word 15 = .ok (.putfield 13, 3) := by decide +kernel
theorem d_bk_word_18 : decode b_bk_word 18 = .ok (.iload_n 1, 1) := by decide +kernel
theorem d_bk_word_19 : decode b_bk_word 19 = .ok (.ifCond .ne 13, 3) := by decide +kernel
theorem d_bk_word_22 : decode b_bk_word 22 = .ok (.new 47, 3) := by decide +kernel
theorem d_bk_word_25 : decode b_bk_word 25 = .ok (.dup, 1) := by decide +kernel
theorem d_bk_word_26 : decode b_bk_word 26 = .ok (.ldc 93, 2) := by decide +kernel
theorem d_bk_word_28 : decode b_bk_word 28 = .ok (.invokespecial 51, 3) := by decide +kernel
theorem d_bk_word_31 : decode b_bk_word 31 = .ok (.athrow, 1) := by decide +kernel
theorem d_bk_word_32 : decode b_bk_word 32 = .ok (.aload_n 0, 1) := by decide +kernel
theorem d_bk_word_33 : decode b_bk_word 33 = .ok (.getfield 26, 3) := by decide +kernel
theorem d_bk_word_36 : decode b_bk_word 36 = .ok (.aload_n 0, 1) := by decide +kernel
theorem d_bk_word_37 : decode b_bk_word 37 = .ok (.getfield 40, 3) := by decide +kernel
theorem d_bk_word_40 : decode b_bk_word 40 = .ok (.invokevirtual 95, 3) := by decide +kernel
theorem d_bk_word_43 : decode b_bk_word 43 = .ok (.aload_n 0, 1) := by decide +kernel
theorem d_bk_word_44 : decode b_bk_word 44 = .ok (.invokevirtual 98, 3) := by decide +kernel
theorem d_bk_word_47 : decode b_bk_word 47 = .ok (.lreturn, 1) := by decide +kernel
theorem d_bk_draftIsWord_0 : decode b_bk_draftIsWord 0 = .ok (.aload_n 0, 1) := by decide +kernel
theorem d_bk_draftIsWord_1 : decode b_bk_draftIsWord 1 = .ok (.getfield 13, 3) := by decide +kernel
theorem d_bk_draftIsWord_4 : decode b_bk_draftIsWord 4 = .ok (.iconst 1, 1) := by decide +kernel
theorem d_bk_draftIsWord_5 : decode b_bk_draftIsWord 5 = .ok (.if_icmp .lt 12, 3) := by decide +kernel
theorem d_bk_draftIsWord_8 : decode b_bk_draftIsWord 8 = .ok (.aload_n 0, 1) := by decide +kernel
theorem d_bk_draftIsWord_9 : decode b_bk_draftIsWord 9 = .ok (.getfield 13, 3) := by decide +kernel
theorem d_bk_draftIsWord_12 : decode b_bk_draftIsWord 12 = .ok (.bipush 63, 2) := by decide +kernel
theorem d_bk_draftIsWord_14 : decode b_bk_draftIsWord 14 = .ok (.if_icmp .le 5, 3) := by decide +kernel
theorem d_bk_draftIsWord_17 : decode b_bk_draftIsWord 17 = .ok (.iconst 0, 1) := by decide +kernel
theorem d_bk_draftIsWord_18 : decode b_bk_draftIsWord 18 = .ok (.ireturn, 1) := by decide +kernel
theorem d_bk_draftIsWord_19 : decode b_bk_draftIsWord 19 = .ok (.iconst 0, 1) := by decide +kernel
theorem d_bk_draftIsWord_20 : decode b_bk_draftIsWord 20 = .ok (.istore_n 1, 1) := by decide +kernel
theorem d_bk_draftIsWord_21 : decode b_bk_draftIsWord 21 = .ok (.iload_n 1, 1) := by decide +kernel
theorem d_bk_draftIsWord_22 : decode b_bk_draftIsWord 22 = .ok (.aload_n 0, 1) := by decide +kernel
theorem d_bk_draftIsWord_23 : decode b_bk_draftIsWord 23 = .ok (.getfield 13, 3) := by decide +kernel
theorem d_bk_draftIsWord_26 : decode b_bk_draftIsWord 26 = .ok (.if_icmp .ge 25, 3) := by decide +kernel
theorem d_bk_draftIsWord_29 : decode b_bk_draftIsWord 29 = .ok (.aload_n 0, 1) := by decide +kernel
theorem d_bk_draftIsWord_30 : decode b_bk_draftIsWord 30 = .ok (.getfield 9, 3) := by decide +kernel
theorem d_bk_draftIsWord_33 : decode b_bk_draftIsWord 33 = .ok (.iload_n 1, 1) := by decide +kernel
theorem d_bk_draftIsWord_34 : decode b_bk_draftIsWord 34 = .ok (.invokestatic 118, 3) := by decide +kernel
theorem d_bk_draftIsWord_37 : decode b_bk_draftIsWord 37 = .ok (.invokestatic 133, 3) := by decide +kernel
theorem d_bk_draftIsWord_40 : decode b_bk_draftIsWord 40 = .ok (.ifCond .ne 5, 3) := by decide +kernel
theorem d_bk_draftIsWord_43 : decode b_bk_draftIsWord 43 = .ok (.iconst 0, 1) := by decide +kernel
theorem d_bk_draftIsWord_44 : decode b_bk_draftIsWord 44 = .ok (.ireturn, 1) := by decide +kernel
theorem d_bk_draftIsWord_45 : decode b_bk_draftIsWord 45 = .ok (.iinc 1 1, 3) := by decide +kernel
theorem d_bk_draftIsWord_48 : decode b_bk_draftIsWord 48 = .ok (.goto (-27), 3) := by decide +kernel
theorem d_bk_draftIsWord_51 : decode b_bk_draftIsWord 51 = .ok (.iconst 1, 1) := by decide +kernel
theorem d_bk_draftIsWord_52 : decode b_bk_draftIsWord 52 = .ok (.ireturn, 1) := by decide +kernel
theorem d_bk_copyDraftToAsked_0 : decode b_bk_copyDraftToAsked 0 = .ok (.aload_n 0, 1) := by decide +kernel
theorem d_bk_copyDraftToAsked_1 : decode b_bk_copyDraftToAsked 1 = .ok (.getfield 40, 3) := by decide +kernel
theorem d_bk_copyDraftToAsked_4 : decode b_bk_copyDraftToAsked 4 = .ok (.invokevirtual 115, 3) := by decide +kernel
theorem d_bk_copyDraftToAsked_7 : decode b_bk_copyDraftToAsked 7 = .ok (.aload_n 0, 1) := by decide +kernel
theorem d_bk_copyDraftToAsked_8 : decode b_bk_copyDraftToAsked 8 = .ok (.getfield 40, 3) := by decide +kernel
theorem d_bk_copyDraftToAsked_11 : decode b_bk_copyDraftToAsked 11 = .ok (.bipush 46, 2) := by decide +kernel
theorem d_bk_copyDraftToAsked_13 : decode b_bk_copyDraftToAsked 13 = .ok (.invokevirtual 136, 3) := by decide +kernel
theorem d_bk_copyDraftToAsked_16 : decode b_bk_copyDraftToAsked 16 = .ok (.pop, 1) := by decide +kernel
theorem d_bk_copyDraftToAsked_17 : decode b_bk_copyDraftToAsked 17 = .ok (.iconst 0, 1) := by decide +kernel
theorem d_bk_copyDraftToAsked_18 : decode b_bk_copyDraftToAsked 18 = .ok (.istore_n 1, 1) := by decide +kernel
theorem d_bk_copyDraftToAsked_19 : decode b_bk_copyDraftToAsked 19 = .ok (.iload_n 1, 1) := by decide +kernel
theorem d_bk_copyDraftToAsked_20 : decode b_bk_copyDraftToAsked 20 = .ok (.aload_n 0, 1) := by decide +kernel
theorem d_bk_copyDraftToAsked_21 : decode b_bk_copyDraftToAsked 21 = .ok (.getfield 13, 3) := by decide +kernel
theorem d_bk_copyDraftToAsked_24 : decode b_bk_copyDraftToAsked 24 = .ok (.if_icmp .ge 25, 3) := by decide +kernel
theorem d_bk_copyDraftToAsked_27 : decode b_bk_copyDraftToAsked 27 = .ok (.aload_n 0, 1) := by decide +kernel
theorem d_bk_copyDraftToAsked_28 : decode b_bk_copyDraftToAsked 28 = .ok (.getfield 40, 3) := by decide +kernel
theorem d_bk_copyDraftToAsked_31 : decode b_bk_copyDraftToAsked 31 = .ok (.aload_n 0, 1) := by decide +kernel
theorem d_bk_copyDraftToAsked_32 : decode b_bk_copyDraftToAsked 32 = .ok (.getfield 9, 3) := by decide +kernel
theorem d_bk_copyDraftToAsked_35 : decode b_bk_copyDraftToAsked 35 = .ok (.iload_n 1, 1) := by decide +kernel
theorem d_bk_copyDraftToAsked_36 : decode b_bk_copyDraftToAsked 36 = .ok (.invokestatic 118, 3) := by decide +kernel
theorem d_bk_copyDraftToAsked_39 : decode b_bk_copyDraftToAsked 39 = .ok (.invokevirtual 136, 3) := by decide +kernel
theorem d_bk_copyDraftToAsked_42 : decode b_bk_copyDraftToAsked 42 = .ok (.pop, 1) := by decide +kernel
theorem d_bk_copyDraftToAsked_43 : decode b_bk_copyDraftToAsked 43 = .ok (.iinc 1 1, 3) := by decide +kernel
theorem d_bk_copyDraftToAsked_46 : decode b_bk_copyDraftToAsked 46 = .ok (.goto (-27), 3) := by decide +kernel
theorem d_bk_copyDraftToAsked_49 : decode b_bk_copyDraftToAsked 49 = .ok (.aload_n 0, 1) := by decide +kernel
theorem d_bk_copyDraftToAsked_50 : decode b_bk_copyDraftToAsked 50 = .ok (.getfield 40, 3) := by decide +kernel
theorem d_bk_copyDraftToAsked_53 : decode b_bk_copyDraftToAsked 53 = .ok (.bipush 46, 2) := by decide +kernel
theorem d_bk_copyDraftToAsked_55 : decode b_bk_copyDraftToAsked 55 = .ok (.invokevirtual 136, 3) := by decide +kernel
theorem d_bk_copyDraftToAsked_58 : decode b_bk_copyDraftToAsked 58 = .ok (.pop, 1) := by decide +kernel
theorem d_bk_copyDraftToAsked_59 : decode b_bk_copyDraftToAsked 59 = .ok (.return_, 1) := by decide +kernel
theorem d_tr_raiseNumbers_0 : decode b_tr_raiseNumbers 0 = .ok (.iconst 0, 1) := by decide +kernel
theorem d_tr_raiseNumbers_1 : decode b_tr_raiseNumbers 1 = .ok (.istore_n 2, 1) := by decide +kernel
theorem d_tr_raiseNumbers_2 : decode b_tr_raiseNumbers 2 = .ok (.iload_n 2, 1) := by decide +kernel
theorem d_tr_raiseNumbers_3 : decode b_tr_raiseNumbers 3 = .ok (.aload_n 1, 1) := by decide +kernel
theorem d_tr_raiseNumbers_4 : decode b_tr_raiseNumbers 4 = .ok (.invokevirtual 25, 3) := by decide +kernel
theorem d_tr_raiseNumbers_7 : decode b_tr_raiseNumbers 7 = .ok (.if_icmp .ge 15, 3) := by decide +kernel
theorem d_tr_raiseNumbers_10 : decode b_tr_raiseNumbers 10 = .ok (.aload_n 0, 1) := by decide +kernel
theorem d_tr_raiseNumbers_11 : decode b_tr_raiseNumbers 11 = .ok (.iload_n 2, 1) := by decide +kernel
theorem d_tr_raiseNumbers_12 : decode b_tr_raiseNumbers 12 = .ok (.aload_n 1, 1) := by decide +kernel
theorem d_tr_raiseNumbers_13 : decode b_tr_raiseNumbers 13 = .ok (.invokevirtual 50, 3) := by decide +kernel
theorem d_tr_raiseNumbers_16 : decode b_tr_raiseNumbers 16 = .ok (.iinc 2 1, 3) := by decide +kernel
theorem d_tr_raiseNumbers_19 : decode b_tr_raiseNumbers 19 = .ok (.goto (-17), 3) := by decide +kernel
theorem d_tr_raiseNumbers_22 : decode b_tr_raiseNumbers 22 = .ok (.return_, 1) := by decide +kernel
theorem d_tr_raiseNumbersFrom_0 : decode b_tr_raiseNumbersFrom 0 = .ok (.aload_n 0, 1) := by decide +kernel
theorem d_tr_raiseNumbersFrom_1 : decode b_tr_raiseNumbersFrom 1 = .ok (.getfield 12, 3) := by decide +kernel
theorem d_tr_raiseNumbersFrom_4 : decode b_tr_raiseNumbersFrom 4 = .ok (.astore_n 3, 1) := by decide +kernel
theorem d_tr_raiseNumbersFrom_5 : decode b_tr_raiseNumbersFrom 5 = .ok (.iload_n 1, 1) := by decide +kernel
theorem d_tr_raiseNumbersFrom_6 : decode b_tr_raiseNumbersFrom 6 = .ok (.istore 4, 2) := by decide +kernel
theorem d_tr_raiseNumbersFrom_8 : decode b_tr_raiseNumbersFrom 8 = .ok (.iload 4, 2) := by decide +kernel
theorem d_tr_raiseNumbersFrom_10 : decode b_tr_raiseNumbersFrom 10 = .ok (.aload_n 2, 1) := by decide +kernel
theorem d_tr_raiseNumbersFrom_11 : decode b_tr_raiseNumbersFrom 11 = .ok (.invokevirtual 25, 3) := by decide +kernel
theorem d_tr_raiseNumbersFrom_14 : decode b_tr_raiseNumbersFrom 14 = .ok (.if_icmp .ge 45, 3) := by decide +kernel
theorem d_tr_raiseNumbersFrom_17 : decode b_tr_raiseNumbersFrom 17 = .ok (.aload_n 3, 1) := by decide +kernel
theorem d_tr_raiseNumbersFrom_18 : decode b_tr_raiseNumbersFrom 18 = .ok (.aload_n 2, 1) := by decide +kernel
theorem d_tr_raiseNumbersFrom_19 : decode b_tr_raiseNumbersFrom 19 = .ok (.iload 4, 2) := by decide +kernel
theorem d_tr_raiseNumbersFrom_21 : decode b_tr_raiseNumbersFrom 21 = .ok (.invokevirtual 31, 3) := by decide +kernel
theorem d_tr_raiseNumbersFrom_24 : decode b_tr_raiseNumbersFrom 24 = .ok (.invokevirtual 35, 3) := by decide +kernel
theorem d_tr_raiseNumbersFrom_27 : decode b_tr_raiseNumbersFrom 27 = .ok (.astore_n 3, 1) := by decide +kernel
theorem d_tr_raiseNumbersFrom_28 : decode b_tr_raiseNumbersFrom 28 = .ok (.aload_n 3, 1) := by decide +kernel
theorem d_tr_raiseNumbersFrom_29 : decode b_tr_raiseNumbersFrom 29 = .ok (.ifnonnull 4, 3) := by decide +kernel
theorem d_tr_raiseNumbersFrom_32 : decode b_tr_raiseNumbersFrom 32 = .ok (.return_, 1) := by decide +kernel
theorem d_tr_raiseNumbersFrom_33 : decode b_tr_raiseNumbersFrom 33 = .ok (.aload_n 3, 1) := by decide +kernel
theorem d_tr_raiseNumbersFrom_34 : decode b_tr_raiseNumbersFrom 34 = .ok (.getfield 39, 3) := by decide +kernel
theorem d_tr_raiseNumbersFrom_37 : decode b_tr_raiseNumbersFrom 37 = .ok (.ifnull 16, 3) := by decide +kernel
theorem d_tr_raiseNumbersFrom_40 : decode b_tr_raiseNumbersFrom 40 = .ok (.iload_n 1, 1) := by decide +kernel
theorem d_tr_raiseNumbersFrom_41 : decode b_tr_raiseNumbersFrom 41 = .ok (.iload 4, 2) := by decide +kernel
theorem d_tr_raiseNumbersFrom_43 : decode b_tr_raiseNumbersFrom 43 = .ok (.iconst 1, 1) := by decide +kernel
theorem d_tr_raiseNumbersFrom_44 : decode b_tr_raiseNumbersFrom 44 = .ok (.iadd, 1) := by decide +kernel
theorem d_tr_raiseNumbersFrom_45 : decode b_tr_raiseNumbersFrom 45 = .ok (.aload_n 3, 1) := by decide +kernel
theorem d_tr_raiseNumbersFrom_46 : decode b_tr_raiseNumbersFrom 46 = .ok (.getfield 39, 3) := by decide +kernel
theorem d_tr_raiseNumbersFrom_49 : decode b_tr_raiseNumbersFrom 49 = .ok (.aload_n 2, 1) := by decide +kernel
theorem d_tr_raiseNumbersFrom_50 : decode b_tr_raiseNumbersFrom 50 = .ok (.invokestatic 54, 3) := by decide +kernel
theorem d_tr_raiseNumbersFrom_53 : decode b_tr_raiseNumbersFrom 53 = .ok (.iinc 4 1, 3) := by decide +kernel
theorem d_tr_raiseNumbersFrom_56 : decode b_tr_raiseNumbersFrom 56 = .ok (.goto (-48), 3) := by decide +kernel
theorem d_tr_raiseNumbersFrom_59 : decode b_tr_raiseNumbersFrom 59 = .ok (.return_, 1) := by decide +kernel
theorem d_tr_raiseBetween_0 : decode b_tr_raiseBetween 0 = .ok (.iload_n 0, 1) := by decide +kernel
theorem d_tr_raiseBetween_1 : decode b_tr_raiseBetween 1 = .ok (.istore 4, 2) := by decide +kernel
theorem d_tr_raiseBetween_3 : decode b_tr_raiseBetween 3 = .ok (.iload 4, 2) := by decide +kernel
theorem d_tr_raiseBetween_5 : decode b_tr_raiseBetween 5 = .ok (.iload_n 1, 1) := by decide +kernel
theorem d_tr_raiseBetween_6 : decode b_tr_raiseBetween 6 = .ok (.if_icmp .gt 23, 3) := by decide +kernel
theorem d_tr_raiseBetween_9 : decode b_tr_raiseBetween 9 = .ok (.aload_n 3, 1) := by decide +kernel
theorem d_tr_raiseBetween_10 : decode b_tr_raiseBetween 10 = .ok (.iload 4, 2) := by decide +kernel
theorem d_tr_raiseBetween_12 : decode b_tr_raiseBetween 12 = .ok (.aload_n 2, 1) := by decide +kernel
theorem d_tr_raiseBetween_13 : decode b_tr_raiseBetween 13 = .ok (.iload 4, 2) := by decide +kernel
theorem d_tr_raiseBetween_15 : decode b_tr_raiseBetween 15 = .ok (.iload_n 0, 1) := by decide +kernel
theorem d_tr_raiseBetween_16 : decode b_tr_raiseBetween 16 = .ok (.isub, 1) := by decide +kernel
theorem d_tr_raiseBetween_17 : decode b_tr_raiseBetween 17 = .ok (.invokestatic 58, 3) := by decide +kernel
theorem d_tr_raiseBetween_20 : decode b_tr_raiseBetween 20 = .ok (.invokevirtual 64, 3) := by decide +kernel
theorem d_tr_raiseBetween_23 : decode b_tr_raiseBetween 23 = .ok (.iinc 4 1, 3) := by decide +kernel
theorem d_tr_raiseBetween_26 : decode b_tr_raiseBetween 26 = .ok (.goto (-23), 3) := by decide +kernel
theorem d_tr_raiseBetween_29 : decode b_tr_raiseBetween 29 = .ok (.return_, 1) := by decide +kernel
theorem d_rw_raiseNumber_0 : decode b_rw_raiseNumber 0 = .ok (.iload_n 2, 1) := by decide +kernel
theorem d_rw_raiseNumber_1 : decode b_rw_raiseNumber 1 = .ok (.aload_n 0, 1) := by decide +kernel
theorem d_rw_raiseNumber_2 : decode b_rw_raiseNumber 2 = .ok (.iload_n 1, 1) := by decide +kernel
theorem d_rw_raiseNumber_3 : decode b_rw_raiseNumber 3 = .ok (.invokevirtual 32, 3) := by decide +kernel
theorem d_rw_raiseNumber_6 : decode b_rw_raiseNumber 6 = .ok (.if_icmp .le 9, 3) := by decide +kernel
theorem d_rw_raiseNumber_9 : decode b_rw_raiseNumber 9 = .ok (.aload_n 0, 1) := by decide +kernel
theorem d_rw_raiseNumber_10 : decode b_rw_raiseNumber 10 = .ok (.iload_n 1, 1) := by decide +kernel
theorem d_rw_raiseNumber_11 : decode b_rw_raiseNumber 11 = .ok (.iload_n 2, 1) := by decide +kernel
theorem d_rw_raiseNumber_12 : decode b_rw_raiseNumber 12 = .ok (.invokevirtual 36, 3) := by decide +kernel
theorem d_rw_raiseNumber_15 : decode b_rw_raiseNumber 15 = .ok (.return_, 1) := by decide +kernel
theorem d_bk_cutsOfAsked_0 : decode b_bk_cutsOfAsked 0 = .ok (.aload_n 0, 1) := by decide +kernel
theorem d_bk_cutsOfAsked_1 : decode b_bk_cutsOfAsked 1 = .ok (.getfield 30, 3) := by decide +kernel
theorem d_bk_cutsOfAsked_4 : decode b_bk_cutsOfAsked 4 = .ok (.aload_n 0, 1) := by decide +kernel
theorem d_bk_cutsOfAsked_5 : decode b_bk_cutsOfAsked 5 = .ok (.getfield 40, 3) := by decide +kernel
theorem d_bk_cutsOfAsked_8 : decode b_bk_cutsOfAsked 8 = .ok (.invokevirtual 54, 3) := by decide +kernel
theorem d_bk_cutsOfAsked_11 : decode b_bk_cutsOfAsked 11 = .ok (.astore_n 1, 1) := by decide +kernel
theorem d_bk_cutsOfAsked_12 : decode b_bk_cutsOfAsked 12 = .ok (.lconst 0, 1) := by decide +kernel
theorem d_bk_cutsOfAsked_13 : decode b_bk_cutsOfAsked 13 = .ok (.lstore_n 2, 1) := by decide +kernel
theorem d_bk_cutsOfAsked_14 : decode b_bk_cutsOfAsked 14 = .ok (.aload_n 0, 1) := by decide +kernel
theorem d_bk_cutsOfAsked_15 : decode b_bk_cutsOfAsked 15 = .ok (.getfield 17, 3) := by decide +kernel
theorem d_bk_cutsOfAsked_18 : decode b_bk_cutsOfAsked 18 = .ok (.istore 4, 2) := by decide +kernel
theorem d_bk_cutsOfAsked_20 : decode b_bk_cutsOfAsked 20 = .ok (.iload 4, 2) := by decide +kernel
theorem d_bk_cutsOfAsked_22 : decode b_bk_cutsOfAsked 22 = .ok (.aload_n 0, 1) := by decide +kernel
theorem d_bk_cutsOfAsked_23 : decode b_bk_cutsOfAsked 23 = .ok (.invokevirtual 102, 3) := by decide +kernel
theorem d_bk_cutsOfAsked_26 : decode b_bk_cutsOfAsked 26 = .ok (.aload_n 0, 1) := by decide +kernel
theorem d_bk_cutsOfAsked_27 : decode b_bk_cutsOfAsked 27 = .ok (.getfield 20, 3) := by decide +kernel
theorem d_bk_cutsOfAsked_30 : decode b_bk_cutsOfAsked 30 = .ok (.isub, 1) := by decide +kernel
theorem d_bk_cutsOfAsked_31 : decode b_bk_cutsOfAsked 31 = .ok (.if_icmp .gt 55, 3) := by decide +kernel
theorem d_bk_cutsOfAsked_34 : decode b_bk_cutsOfAsked 34 = .ok (.iload 4, 2) := by decide +kernel
theorem d_bk_cutsOfAsked_36 : decode b_bk_cutsOfAsked 36 = .ok (.invokestatic 105, 3) := by decide +kernel
theorem d_bk_cutsOfAsked_39 : decode b_bk_cutsOfAsked 39 = .ok (.istore 5, 2) := by decide +kernel
theorem d_bk_cutsOfAsked_41 : decode b_bk_cutsOfAsked 41 = .ok (.aload_n 1, 1) := by decide +kernel
theorem d_bk_cutsOfAsked_42 : decode b_bk_cutsOfAsked 42 = .ok (.ifnonnull 15, 3) := by decide +kernel
theorem d_bk_cutsOfAsked_45 : decode b_bk_cutsOfAsked 45 = .ok (.aload_n 0, 1) := by decide +kernel
theorem d_bk_cutsOfAsked_46 : decode b_bk_cutsOfAsked 46 = .ok (.getfield 40, 3) := by decide +kernel
theorem d_bk_cutsOfAsked_49 : decode b_bk_cutsOfAsked 49 = .ok (.iload 5, 2) := by decide +kernel
theorem d_bk_cutsOfAsked_51 : decode b_bk_cutsOfAsked 51 = .ok (.invokevirtual 109, 3) := by decide +kernel
theorem d_bk_cutsOfAsked_54 : decode b_bk_cutsOfAsked 54 = .ok (.goto 9, 3) := by decide +kernel
theorem d_bk_cutsOfAsked_57 : decode b_bk_cutsOfAsked 57 = .ok (.aload_n 1, 1) := by decide +kernel
theorem d_bk_cutsOfAsked_58 : decode b_bk_cutsOfAsked 58 = .ok (.iload 5, 2) := by decide +kernel
theorem d_bk_cutsOfAsked_60 : decode b_bk_cutsOfAsked 60 = .ok (.invokestatic 118, 3) := by decide +kernel
theorem d_bk_cutsOfAsked_63 : decode b_bk_cutsOfAsked 63 = .ok (.istore 6, 2) := by decide +kernel
theorem d_bk_cutsOfAsked_65 : decode b_bk_cutsOfAsked 65 = .ok (.iload 6, 2) := by decide +kernel
theorem d_bk_cutsOfAsked_67 : decode b_bk_cutsOfAsked 67 = .ok (.iconst 1, 1) := by decide +kernel
theorem d_bk_cutsOfAsked_68 : decode b_bk_cutsOfAsked 68 = .ok (.iand, 1) := by decide +kernel
theorem d_bk_cutsOfAsked_69 : decode b_bk_cutsOfAsked 69 = .ok (.iconst 1, 1) := by decide +kernel
theorem d_bk_cutsOfAsked_70 : decode b_bk_cutsOfAsked 70 = .ok (.if_icmp .ne 10, 3) := by decide +kernel
theorem d_bk_cutsOfAsked_73 : decode b_bk_cutsOfAsked 73 = .ok (.lload_n 2, 1) := by decide +kernel
theorem d_bk_cutsOfAsked_74 : decode b_bk_cutsOfAsked 74 = .ok (.lconst 1, 1) := by decide +kernel
theorem d_bk_cutsOfAsked_75 : decode b_bk_cutsOfAsked 75 = .ok (.iload 4, 2) := by decide +kernel
theorem d_bk_cutsOfAsked_77 : decode b_bk_cutsOfAsked 77 = .ok (.lshl, 1) := by decide +kernel
theorem d_bk_cutsOfAsked_78 : decode b_bk_cutsOfAsked 78 = .ok (.lor, 1) := by decide +kernel
theorem d_bk_cutsOfAsked_79 : decode b_bk_cutsOfAsked 79 = .ok (.lstore_n 2, 1) := by decide +kernel
theorem d_bk_cutsOfAsked_80 : decode b_bk_cutsOfAsked 80 = .ok (.iinc 4 1, 3) := by decide +kernel
theorem d_bk_cutsOfAsked_83 : decode b_bk_cutsOfAsked 83 = .ok (.goto (-63), 3) := by decide +kernel
theorem d_bk_cutsOfAsked_86 : decode b_bk_cutsOfAsked 86 = .ok (.lload_n 2, 1) := by decide +kernel
theorem d_bk_cutsOfAsked_87 : decode b_bk_cutsOfAsked 87 = .ok (.lreturn, 1) := by decide +kernel
theorem d_lw_law_0 : decode b_lw_law 0 = .ok (.new 8, 3) := by decide +kernel
theorem d_lw_law_3 : decode b_lw_law 3 = .ok (.dup, 1) := by decide +kernel
theorem d_lw_law_4 : decode b_lw_law 4 = .ok (.invokespecial 24, 3) := by decide +kernel
theorem d_lw_law_7 : decode b_lw_law 7 = .ok (.astore_n 1, 1) := by decide +kernel
theorem d_lw_law_8 : decode b_lw_law 8 = .ok (.new 25, 3) := by decide +kernel
theorem d_lw_law_11 : decode b_lw_law 11 = .ok (.dup, 1) := by decide +kernel
theorem d_lw_law_12 : decode b_lw_law 12 = .ok (.invokespecial 27, 3) := by decide +kernel
theorem d_lw_law_15 : decode b_lw_law 15 = .ok (.astore_n 2, 1) := by decide +kernel
theorem d_lw_law_16 : decode b_lw_law 16 = .ok (.iconst 1, 1) := by decide +kernel
theorem d_lw_law_17 : decode b_lw_law 17 = .ok (.newarray .long, 2) := by decide +kernel
theorem d_lw_law_19 : decode b_lw_law 19 = .ok (.astore_n 3, 1) := by decide +kernel
theorem d_lw_law_20 : decode b_lw_law 20 = .ok (.iconst 0, 1) := by decide +kernel
theorem d_lw_law_21 : decode b_lw_law 21 = .ok (.istore 4, 2) := by decide +kernel
theorem d_lw_law_23 : decode b_lw_law 23 = .ok (.iload 4, 2) := by decide +kernel
theorem d_lw_law_25 : decode b_lw_law 25 = .ok (.aload_n 0, 1) := by decide +kernel
theorem d_lw_law_26 : decode b_lw_law 26 = .ok (.arraylength, 1) := by decide +kernel
theorem d_lw_law_27 : decode b_lw_law 27 = .ok (.iconst 4, 1) := by decide +kernel
theorem d_lw_law_28 : decode b_lw_law 28 = .ok (.isub, 1) := by decide +kernel
theorem d_lw_law_29 : decode b_lw_law 29 = .ok (.if_icmp .gt 344, 3) := by decide +kernel
theorem d_lw_law_32 : decode b_lw_law 32 = .ok (.aload_n 0, 1) := by decide +kernel
theorem d_lw_law_33 : decode b_lw_law 33 = .ok (.iload 4, 2) := by decide +kernel
theorem d_lw_law_35 : decode b_lw_law 35 = .ok (.iaload, 1) := by decide +kernel
theorem d_lw_law_36 : decode b_lw_law 36 = .ok (.bipush 7, 2) := by decide +kernel
theorem d_lw_law_38 : decode b_lw_law 38 = .ok (.iand, 1) := by decide +kernel
theorem d_lw_law_39 : decode b_lw_law 39 = .ok (.tableswitch 328 0 6 #[41, 110, 154, 198, 241, 278, 303], 41) := by decide +kernel
theorem d_lw_law_80 : decode b_lw_law 80 = .ok (.aload_n 1, 1) := by decide +kernel
theorem d_lw_law_81 : decode b_lw_law 81 = .ok (.aload_n 0, 1) := by decide +kernel
theorem d_lw_law_82 : decode b_lw_law 82 = .ok (.iload 4, 2) := by decide +kernel
theorem d_lw_law_84 : decode b_lw_law 84 = .ok (.iconst 1, 1) := by decide +kernel
theorem d_lw_law_85 : decode b_lw_law 85 = .ok (.iadd, 1) := by decide +kernel
theorem d_lw_law_86 : decode b_lw_law 86 = .ok (.iaload, 1) := by decide +kernel
theorem d_lw_law_87 : decode b_lw_law 87 = .ok (.i2l, 1) := by decide +kernel
theorem d_lw_law_88 : decode b_lw_law 88 = .ok (.bipush 32, 2) := by decide +kernel
theorem d_lw_law_90 : decode b_lw_law 90 = .ok (.lshl, 1) := by decide +kernel
theorem d_lw_law_91 : decode b_lw_law 91 = .ok (.aload_n 0, 1) := by decide +kernel
theorem d_lw_law_92 : decode b_lw_law 92 = .ok (.iload 4, 2) := by decide +kernel
theorem d_lw_law_94 : decode b_lw_law 94 = .ok (.iconst 2, 1) := by decide +kernel
theorem d_lw_law_95 : decode b_lw_law 95 = .ok (.iadd, 1) := by decide +kernel
theorem d_lw_law_96 : decode b_lw_law 96 = .ok (.iaload, 1) := by decide +kernel
theorem d_lw_law_97 : decode b_lw_law 97 = .ok (.i2l, 1) := by decide +kernel
theorem d_lw_law_98 : decode b_lw_law 98 = .ok (.ldc2_w 28, 3) := by decide +kernel
theorem d_lw_law_101 : decode b_lw_law 101 = .ok (.land, 1) := by decide +kernel
theorem d_lw_law_102 : decode b_lw_law 102 = .ok (.lor, 1) := by decide +kernel
theorem d_lw_law_103 : decode b_lw_law 103 = .ok (.aload_n 0, 1) := by decide +kernel
theorem d_lw_law_104 : decode b_lw_law 104 = .ok (.iload 4, 2) := by decide +kernel
theorem d_lw_law_106 : decode b_lw_law 106 = .ok (.iconst 3, 1) := by decide +kernel
theorem d_lw_law_107 : decode b_lw_law 107 = .ok (.iadd, 1) := by decide +kernel
theorem d_lw_law_108 : decode b_lw_law 108 = .ok (.iaload, 1) := by decide +kernel
theorem d_lw_law_109 : decode b_lw_law 109 = .ok (.invokevirtual 30, 3) := by decide +kernel
theorem d_lw_law_112 : decode b_lw_law 112 = .ok (.aload_n 2, 1) := by decide +kernel
theorem d_lw_law_113 : decode b_lw_law 113 = .ok (.aload_n 0, 1) := by decide +kernel
theorem d_lw_law_114 : decode b_lw_law 114 = .ok (.iload 4, 2) := by decide +kernel
theorem d_lw_law_116 : decode b_lw_law 116 = .ok (.iconst 1, 1) := by decide +kernel
theorem d_lw_law_117 : decode b_lw_law 117 = .ok (.iadd, 1) := by decide +kernel
theorem d_lw_law_118 : decode b_lw_law 118 = .ok (.iaload, 1) := by decide +kernel
theorem d_lw_law_119 : decode b_lw_law 119 = .ok (.i2l, 1) := by decide +kernel
theorem d_lw_law_120 : decode b_lw_law 120 = .ok (.bipush 32, 2) := by decide +kernel
theorem d_lw_law_122 : decode b_lw_law 122 = .ok (.lshl, 1) := by decide +kernel
theorem d_lw_law_123 : decode b_lw_law 123 = .ok (.aload_n 0, 1) := by decide +kernel
theorem d_lw_law_124 : decode b_lw_law 124 = .ok (.iload 4, 2) := by decide +kernel
theorem d_lw_law_126 : decode b_lw_law 126 = .ok (.iconst 2, 1) := by decide +kernel
theorem d_lw_law_127 : decode b_lw_law 127 = .ok (.iadd, 1) := by decide +kernel
theorem d_lw_law_128 : decode b_lw_law 128 = .ok (.iaload, 1) := by decide +kernel
theorem d_lw_law_129 : decode b_lw_law 129 = .ok (.i2l, 1) := by decide +kernel
theorem d_lw_law_130 : decode b_lw_law 130 = .ok (.ldc2_w 28, 3) := by decide +kernel
theorem d_lw_law_133 : decode b_lw_law 133 = .ok (.land, 1) := by decide +kernel
theorem d_lw_law_134 : decode b_lw_law 134 = .ok (.lor, 1) := by decide +kernel
theorem d_lw_law_135 : decode b_lw_law 135 = .ok (.aload_n 0, 1) := by decide +kernel
theorem d_lw_law_136 : decode b_lw_law 136 = .ok (.iload 4, 2) := by decide +kernel
theorem d_lw_law_138 : decode b_lw_law 138 = .ok (.iconst 3, 1) := by decide +kernel
theorem d_lw_law_139 : decode b_lw_law 139 = .ok (.iadd, 1) := by decide +kernel
theorem d_lw_law_140 : decode b_lw_law 140 = .ok (.iaload, 1) := by decide +kernel
theorem d_lw_law_141 : decode b_lw_law 141 = .ok (.invokevirtual 34, 3) := by decide +kernel
theorem d_lw_law_144 : decode b_lw_law 144 = .ok (.if_icmp .eq 223, 3) := by decide +kernel
theorem d_lw_law_147 : decode b_lw_law 147 = .ok (.iconst 0, 1) := by decide +kernel
theorem d_lw_law_148 : decode b_lw_law 148 = .ok (.ireturn, 1) := by decide +kernel
theorem d_lw_law_149 : decode b_lw_law 149 = .ok (.aload_n 1, 1) := by decide +kernel
theorem d_lw_law_150 : decode b_lw_law 150 = .ok (.aload_n 3, 1) := by decide +kernel
theorem d_lw_law_151 : decode b_lw_law 151 = .ok (.invokestatic 35, 3) := by decide +kernel
theorem d_lw_law_154 : decode b_lw_law 154 = .ok (.istore 5, 2) := by decide +kernel
theorem d_lw_law_156 : decode b_lw_law 156 = .ok (.aload_n 2, 1) := by decide +kernel
theorem d_lw_law_157 : decode b_lw_law 157 = .ok (.invokevirtual 40, 3) := by decide +kernel
theorem d_lw_law_160 : decode b_lw_law 160 = .ok (.istore 6, 2) := by decide +kernel
theorem d_lw_law_162 : decode b_lw_law 162 = .ok (.aload_n 2, 1) := by decide +kernel
theorem d_lw_law_163 : decode b_lw_law 163 = .ok (.invokevirtual 41, 3) := by decide +kernel
theorem d_lw_law_166 : decode b_lw_law 166 = .ok (.iload 5, 2) := by decide +kernel
theorem d_lw_law_168 : decode b_lw_law 168 = .ok (.if_icmp .eq 5, 3) := by decide +kernel
theorem d_lw_law_171 : decode b_lw_law 171 = .ok (.iconst 0, 1) := by decide +kernel
theorem d_lw_law_172 : decode b_lw_law 172 = .ok (.ireturn, 1) := by decide +kernel
theorem d_lw_law_173 : decode b_lw_law 173 = .ok (.iload 5, 2) := by decide +kernel
theorem d_lw_law_175 : decode b_lw_law 175 = .ok (.ifCond .ne 15, 3) := by decide +kernel
theorem d_lw_law_178 : decode b_lw_law 178 = .ok (.aload_n 3, 1) := by decide +kernel
theorem d_lw_law_179 : decode b_lw_law 179 = .ok (.iconst 0, 1) := by decide +kernel
theorem d_lw_law_180 : decode b_lw_law 180 = .ok (.laload, 1) := by decide +kernel
theorem d_lw_law_181 : decode b_lw_law 181 = .ok (.iload 6, 2) := by decide +kernel
theorem d_lw_law_183 : decode b_lw_law 183 = .ok (.i2l, 1) := by decide +kernel
theorem d_lw_law_184 : decode b_lw_law 184 = .ok (.lcmp, 1) := by decide +kernel
theorem d_lw_law_185 : decode b_lw_law 185 = .ok (.ifCond .eq 5, 3) := by decide +kernel
theorem d_lw_law_188 : decode b_lw_law 188 = .ok (.iconst 0, 1) := by decide +kernel
theorem d_lw_law_189 : decode b_lw_law 189 = .ok (.ireturn, 1) := by decide +kernel
theorem d_lw_law_190 : decode b_lw_law 190 = .ok (.goto 177, 3) := by decide +kernel
theorem d_lw_law_193 : decode b_lw_law 193 = .ok (.aload_n 1, 1) := by decide +kernel
theorem d_lw_law_194 : decode b_lw_law 194 = .ok (.aload_n 3, 1) := by decide +kernel
theorem d_lw_law_195 : decode b_lw_law 195 = .ok (.invokestatic 44, 3) := by decide +kernel
theorem d_lw_law_198 : decode b_lw_law 198 = .ok (.istore 5, 2) := by decide +kernel
theorem d_lw_law_200 : decode b_lw_law 200 = .ok (.aload_n 2, 1) := by decide +kernel
theorem d_lw_law_201 : decode b_lw_law 201 = .ok (.invokevirtual 46, 3) := by decide +kernel
theorem d_lw_law_204 : decode b_lw_law 204 = .ok (.istore 6, 2) := by decide +kernel
theorem d_lw_law_206 : decode b_lw_law 206 = .ok (.aload_n 2, 1) := by decide +kernel
theorem d_lw_law_207 : decode b_lw_law 207 = .ok (.invokevirtual 41, 3) := by decide +kernel
theorem d_lw_law_210 : decode b_lw_law 210 = .ok (.iload 5, 2) := by decide +kernel
theorem d_lw_law_212 : decode b_lw_law 212 = .ok (.if_icmp .eq 5, 3) := by decide +kernel
theorem d_lw_law_215 : decode b_lw_law 215 = .ok (.iconst 0, 1) := by decide +kernel
theorem d_lw_law_216 : decode b_lw_law 216 = .ok (.ireturn, 1) := by decide +kernel
theorem d_lw_law_217 : decode b_lw_law 217 = .ok (.iload 5, 2) := by decide +kernel
theorem d_lw_law_219 : decode b_lw_law 219 = .ok (.ifCond .ne 15, 3) := by decide +kernel
theorem d_lw_law_222 : decode b_lw_law 222 = .ok (.aload_n 3, 1) := by decide +kernel
theorem d_lw_law_223 : decode b_lw_law 223 = .ok (.iconst 0, 1) := by decide +kernel
theorem d_lw_law_224 : decode b_lw_law 224 = .ok (.laload, 1) := by decide +kernel
theorem d_lw_law_225 : decode b_lw_law 225 = .ok (.iload 6, 2) := by decide +kernel
theorem d_lw_law_227 : decode b_lw_law 227 = .ok (.i2l, 1) := by decide +kernel
theorem d_lw_law_228 : decode b_lw_law 228 = .ok (.lcmp, 1) := by decide +kernel
theorem d_lw_law_229 : decode b_lw_law 229 = .ok (.ifCond .eq 5, 3) := by decide +kernel
theorem d_lw_law_232 : decode b_lw_law 232 = .ok (.iconst 0, 1) := by decide +kernel
theorem d_lw_law_233 : decode b_lw_law 233 = .ok (.ireturn, 1) := by decide +kernel
theorem d_lw_law_234 : decode b_lw_law 234 = .ok (.goto 133, 3) := by decide +kernel
theorem d_lw_law_237 : decode b_lw_law 237 = .ok (.aload_n 1, 1) := by decide +kernel
theorem d_lw_law_238 : decode b_lw_law 238 = .ok (.aload_n 3, 1) := by decide +kernel
theorem d_lw_law_239 : decode b_lw_law 239 = .ok (.invokestatic 47, 3) := by decide +kernel
theorem d_lw_law_242 : decode b_lw_law 242 = .ok (.istore 5, 2) := by decide +kernel
theorem d_lw_law_244 : decode b_lw_law 244 = .ok (.aload_n 2, 1) := by decide +kernel
theorem d_lw_law_245 : decode b_lw_law 245 = .ok (.invokevirtual 49, 3) := by decide +kernel
theorem d_lw_law_248 : decode b_lw_law 248 = .ok (.lstore 6, 2) := by decide +kernel
theorem d_lw_law_250 : decode b_lw_law 250 = .ok (.aload_n 2, 1) := by decide +kernel
theorem d_lw_law_251 : decode b_lw_law 251 = .ok (.invokevirtual 41, 3) := by decide +kernel
theorem d_lw_law_254 : decode b_lw_law 254 = .ok (.iload 5, 2) := by decide +kernel
theorem d_lw_law_256 : decode b_lw_law 256 = .ok (.if_icmp .eq 5, 3) := by decide +kernel
theorem d_lw_law_259 : decode b_lw_law 259 = .ok (.iconst 0, 1) := by decide +kernel
theorem d_lw_law_260 : decode b_lw_law 260 = .ok (.ireturn, 1) := by decide +kernel
theorem d_lw_law_261 : decode b_lw_law 261 = .ok (.iload 5, 2) := by decide +kernel
theorem d_lw_law_263 : decode b_lw_law 263 = .ok (.ifCond .ne 14, 3) := by decide +kernel
theorem d_lw_law_266 : decode b_lw_law 266 = .ok (.aload_n 3, 1) := by decide +kernel
theorem d_lw_law_267 : decode b_lw_law 267 = .ok (.iconst 0, 1) := by decide +kernel
theorem d_lw_law_268 : decode b_lw_law 268 = .ok (.laload, 1) := by decide +kernel
theorem d_lw_law_269 : decode b_lw_law 269 = .ok (.lload 6, 2) := by decide +kernel
theorem d_lw_law_271 : decode b_lw_law 271 = .ok (.lcmp, 1) := by decide +kernel
theorem d_lw_law_272 : decode b_lw_law 272 = .ok (.ifCond .eq 5, 3) := by decide +kernel
theorem d_lw_law_275 : decode b_lw_law 275 = .ok (.iconst 0, 1) := by decide +kernel
theorem d_lw_law_276 : decode b_lw_law 276 = .ok (.ireturn, 1) := by decide +kernel
theorem d_lw_law_277 : decode b_lw_law 277 = .ok (.goto 90, 3) := by decide +kernel
theorem d_lw_law_280 : decode b_lw_law 280 = .ok (.aload_n 1, 1) := by decide +kernel
theorem d_lw_law_281 : decode b_lw_law 281 = .ok (.aload_n 0, 1) := by decide +kernel
theorem d_lw_law_282 : decode b_lw_law 282 = .ok (.iload 4, 2) := by decide +kernel
theorem d_lw_law_284 : decode b_lw_law 284 = .ok (.iconst 1, 1) := by decide +kernel
theorem d_lw_law_285 : decode b_lw_law 285 = .ok (.iadd, 1) := by decide +kernel
theorem d_lw_law_286 : decode b_lw_law 286 = .ok (.iaload, 1) := by decide +kernel
theorem d_lw_law_287 : decode b_lw_law 287 = .ok (.aload_n 0, 1) := by decide +kernel
theorem d_lw_law_288 : decode b_lw_law 288 = .ok (.iload 4, 2) := by decide +kernel
theorem d_lw_law_290 : decode b_lw_law 290 = .ok (.iconst 2, 1) := by decide +kernel
theorem d_lw_law_291 : decode b_lw_law 291 = .ok (.iadd, 1) := by decide +kernel
theorem d_lw_law_292 : decode b_lw_law 292 = .ok (.iaload, 1) := by decide +kernel
theorem d_lw_law_293 : decode b_lw_law 293 = .ok (.invokevirtual 50, 3) := by decide +kernel
theorem d_lw_law_296 : decode b_lw_law 296 = .ok (.aload_n 2, 1) := by decide +kernel
theorem d_lw_law_297 : decode b_lw_law 297 = .ok (.aload_n 0, 1) := by decide +kernel
theorem d_lw_law_298 : decode b_lw_law 298 = .ok (.iload 4, 2) := by decide +kernel
theorem d_lw_law_300 : decode b_lw_law 300 = .ok (.iconst 1, 1) := by decide +kernel
theorem d_lw_law_301 : decode b_lw_law 301 = .ok (.iadd, 1) := by decide +kernel
theorem d_lw_law_302 : decode b_lw_law 302 = .ok (.iaload, 1) := by decide +kernel
theorem d_lw_law_303 : decode b_lw_law 303 = .ok (.aload_n 0, 1) := by decide +kernel
theorem d_lw_law_304 : decode b_lw_law 304 = .ok (.iload 4, 2) := by decide +kernel
theorem d_lw_law_306 : decode b_lw_law 306 = .ok (.iconst 2, 1) := by decide +kernel
theorem d_lw_law_307 : decode b_lw_law 307 = .ok (.iadd, 1) := by decide +kernel
theorem d_lw_law_308 : decode b_lw_law 308 = .ok (.iaload, 1) := by decide +kernel
theorem d_lw_law_309 : decode b_lw_law 309 = .ok (.invokevirtual 54, 3) := by decide +kernel
theorem d_lw_law_312 : decode b_lw_law 312 = .ok (.if_icmp .eq 55, 3) := by decide +kernel
theorem d_lw_law_315 : decode b_lw_law 315 = .ok (.iconst 0, 1) := by decide +kernel
theorem d_lw_law_316 : decode b_lw_law 316 = .ok (.ireturn, 1) := by decide +kernel
theorem d_lw_law_317 : decode b_lw_law 317 = .ok (.aload_n 1, 1) := by decide +kernel
theorem d_lw_law_318 : decode b_lw_law 318 = .ok (.aload_n 0, 1) := by decide +kernel
theorem d_lw_law_319 : decode b_lw_law 319 = .ok (.iload 4, 2) := by decide +kernel
theorem d_lw_law_321 : decode b_lw_law 321 = .ok (.iconst 1, 1) := by decide +kernel
theorem d_lw_law_322 : decode b_lw_law 322 = .ok (.iadd, 1) := by decide +kernel
theorem d_lw_law_323 : decode b_lw_law 323 = .ok (.iaload, 1) := by decide +kernel
theorem d_lw_law_324 : decode b_lw_law 324 = .ok (.invokevirtual 55, 3) := by decide +kernel
theorem d_lw_law_327 : decode b_lw_law 327 = .ok (.aload_n 2, 1) := by decide +kernel
theorem d_lw_law_328 : decode b_lw_law 328 = .ok (.aload_n 0, 1) := by decide +kernel
theorem d_lw_law_329 : decode b_lw_law 329 = .ok (.iload 4, 2) := by decide +kernel
theorem d_lw_law_331 : decode b_lw_law 331 = .ok (.iconst 1, 1) := by decide +kernel
theorem d_lw_law_332 : decode b_lw_law 332 = .ok (.iadd, 1) := by decide +kernel
theorem d_lw_law_333 : decode b_lw_law 333 = .ok (.iaload, 1) := by decide +kernel
theorem d_lw_law_334 : decode b_lw_law 334 = .ok (.invokevirtual 59, 3) := by decide +kernel
theorem d_lw_law_337 : decode b_lw_law 337 = .ok (.if_icmp .eq 30, 3) := by decide +kernel
theorem d_lw_law_340 : decode b_lw_law 340 = .ok (.iconst 0, 1) := by decide +kernel
theorem d_lw_law_341 : decode b_lw_law 341 = .ok (.ireturn, 1) := by decide +kernel
theorem d_lw_law_342 : decode b_lw_law 342 = .ok (.aload_n 1, 1) := by decide +kernel
theorem d_lw_law_343 : decode b_lw_law 343 = .ok (.aload_n 0, 1) := by decide +kernel
theorem d_lw_law_344 : decode b_lw_law 344 = .ok (.iload 4, 2) := by decide +kernel
theorem d_lw_law_346 : decode b_lw_law 346 = .ok (.iconst 1, 1) := by decide +kernel
theorem d_lw_law_347 : decode b_lw_law 347 = .ok (.iadd, 1) := by decide +kernel
theorem d_lw_law_348 : decode b_lw_law 348 = .ok (.iaload, 1) := by decide +kernel
theorem d_lw_law_349 : decode b_lw_law 349 = .ok (.invokevirtual 60, 3) := by decide +kernel
theorem d_lw_law_352 : decode b_lw_law 352 = .ok (.aload_n 2, 1) := by decide +kernel
theorem d_lw_law_353 : decode b_lw_law 353 = .ok (.aload_n 0, 1) := by decide +kernel
theorem d_lw_law_354 : decode b_lw_law 354 = .ok (.iload 4, 2) := by decide +kernel
theorem d_lw_law_356 : decode b_lw_law 356 = .ok (.iconst 1, 1) := by decide +kernel
theorem d_lw_law_357 : decode b_lw_law 357 = .ok (.iadd, 1) := by decide +kernel
theorem d_lw_law_358 : decode b_lw_law 358 = .ok (.iaload, 1) := by decide +kernel
theorem d_lw_law_359 : decode b_lw_law 359 = .ok (.invokevirtual 63, 3) := by decide +kernel
theorem d_lw_law_362 : decode b_lw_law 362 = .ok (.if_icmp .eq 5, 3) := by decide +kernel
theorem d_lw_law_365 : decode b_lw_law 365 = .ok (.iconst 0, 1) := by decide +kernel
theorem d_lw_law_366 : decode b_lw_law 366 = .ok (.ireturn, 1) := by decide +kernel
theorem d_lw_law_367 : decode b_lw_law 367 = .ok (.iinc 4 4, 3) := by decide +kernel
theorem d_lw_law_370 : decode b_lw_law 370 = .ok (.goto (-347), 3) := by decide +kernel
theorem d_lw_law_373 : decode b_lw_law 373 = .ok (.iconst 1, 1) := by decide +kernel
theorem d_lw_law_374 : decode b_lw_law 374 = .ok (.ireturn, 1) := by decide +kernel
