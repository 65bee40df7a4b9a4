theorem ze_A_countLeading_36 : decode zb_A_countLeading 36 = .ok (.ireturn, 1) := by decide +kernel
theorem ze_A_countLeadingOnly_0 : decode zb_A_countLeadingOnly 0 = .ok (.iconst 0, 1) := by decide +kernel
theorem ze_A_countLeadingOnly_1 : decode zb_A_countLeadingOnly 1 = .ok (.istore_n 2, 1) := by decide +kernel
theorem ze_A_countLeadingOnly_2 : decode zb_A_countLeadingOnly 2 = .ok (.iconst 0, 1) := by decide +kernel
theorem ze_A_countLeadingOnly_3 : decode zb_A_countLeadingOnly 3 = .ok (.istore_n 3, 1) := by decide +kernel
theorem ze_A_countLeadingOnly_4 : decode zb_A_countLeadingOnly 4 = .ok (.iload_n 3, 1) := by decide +kernel
theorem ze_A_countLeadingOnly_5 : decode zb_A_countLeadingOnly 5 = .ok (.aload_n 0, 1) := by decide +kernel
theorem ze_A_countLeadingOnly_6 : decode zb_A_countLeadingOnly 6 = .ok (.getfield 25, 3) := by decide +kernel
theorem ze_A_countLeadingOnly_9 : decode zb_A_countLeadingOnly 9 = .ok (.if_icmp .ge 35, 3) := by decide +kernel
theorem ze_A_countLeadingOnly_12 : decode zb_A_countLeadingOnly 12 = .ok (.aload_n 0, 1) := by decide +kernel
theorem ze_A_countLeadingOnly_13 : decode zb_A_countLeadingOnly 13 = .ok (.iload_n 3, 1) := by decide +kernel
theorem ze_A_countLeadingOnly_14 : decode zb_A_countLeadingOnly 14 = .ok (.aload_n 0, 1) := by decide +kernel
theorem ze_A_countLeadingOnly_15 : decode zb_A_countLeadingOnly 15 = .ok (.getfield 22, 3) := by decide +kernel
theorem ze_A_countLeadingOnly_18 : decode zb_A_countLeadingOnly 18 = .ok (.iload_n 1, 1) := by decide +kernel
theorem ze_A_countLeadingOnly_19 : decode zb_A_countLeadingOnly 19 = .ok (.iaload, 1) := by decide +kernel
theorem ze_A_countLeadingOnly_20 : decode zb_A_countLeadingOnly 20 = .ok (.invokevirtual 56, 3) := by decide +kernel
theorem ze_A_countLeadingOnly_23 : decode zb_A_countLeadingOnly 23 = .ok (.ifCond .eq 15, 3) := by decide +kernel
theorem ze_A_countLeadingOnly_26 : decode zb_A_countLeadingOnly 26 = .ok (.aload_n 0, 1) := by decide +kernel
theorem ze_A_countLeadingOnly_27 : decode zb_A_countLeadingOnly 27 = .ok (.iload_n 3, 1) := by decide +kernel
theorem ze_A_countLeadingOnly_28 : decode zb_A_countLeadingOnly 28 = .ok (.invokevirtual 91, 3) := by decide +kernel
theorem ze_A_countLeadingOnly_31 : decode zb_A_countLeadingOnly 31 = .ok (.iconst 1, 1) := by decide +kernel
theorem ze_A_countLeadingOnly_32 : decode zb_A_countLeadingOnly 32 = .ok (.if_icmp .ne 6, 3) := by decide +kernel
theorem ze_A_countLeadingOnly_35 : decode zb_A_countLeadingOnly 35 = .ok (.iinc 2 1, 3) := by decide +kernel
theorem ze_A_countLeadingOnly_38 : decode zb_A_countLeadingOnly 38 = .ok (.iinc 3 1, 3) := by decide +kernel
theorem ze_A_countLeadingOnly_41 : decode zb_A_countLeadingOnly 41 = .ok (.goto (-37), 3) := by decide +kernel
theorem ze_A_countLeadingOnly_44 : decode zb_A_countLeadingOnly 44 = .ok (.iload_n 2, 1) := by decide +kernel
theorem ze_A_countLeadingOnly_45 : decode zb_A_countLeadingOnly 45 = .ok (.ireturn, 1) := by decide +kernel
theorem ze_A_countAttractorsFrom_0 : decode zb_A_countAttractorsFrom 0 = .ok (.aload_n 0, 1) := by decide +kernel
theorem ze_A_countAttractorsFrom_1 : decode zb_A_countAttractorsFrom 1 = .ok (.getfield 9, 3) := by decide +kernel
theorem ze_A_countAttractorsFrom_4 : decode zb_A_countAttractorsFrom 4 = .ok (.iload_n 1, 1) := by decide +kernel
theorem ze_A_countAttractorsFrom_5 : decode zb_A_countAttractorsFrom 5 = .ok (.laload, 1) := by decide +kernel
theorem ze_A_countAttractorsFrom_6 : decode zb_A_countAttractorsFrom 6 = .ok (.aload_n 0, 1) := by decide +kernel
theorem ze_A_countAttractorsFrom_7 : decode zb_A_countAttractorsFrom 7 = .ok (.getfield 60, 3) := by decide +kernel
theorem ze_A_countAttractorsFrom_10 : decode zb_A_countAttractorsFrom 10 = .ok (.land, 1) := by decide +kernel
theorem ze_A_countAttractorsFrom_11 : decode zb_A_countAttractorsFrom 11 = .ok (.invokestatic 85, 3) := by decide +kernel
theorem ze_A_countAttractorsFrom_14 : decode zb_A_countAttractorsFrom 14 = .ok (.aload_n 0, 1) := by decide +kernel
theorem ze_A_countAttractorsFrom_15 : decode zb_A_countAttractorsFrom 15 = .ok (.getfield 15, 3) := by decide +kernel
theorem ze_A_countAttractorsFrom_18 : decode zb_A_countAttractorsFrom 18 = .ok (.iload_n 1, 1) := by decide +kernel
theorem ze_A_countAttractorsFrom_19 : decode zb_A_countAttractorsFrom 19 = .ok (.laload, 1) := by decide +kernel
theorem ze_A_countAttractorsFrom_20 : decode zb_A_countAttractorsFrom 20 = .ok (.aload_n 0, 1) := by decide +kernel
theorem ze_A_countAttractorsFrom_21 : decode zb_A_countAttractorsFrom 21 = .ok (.getfield 64, 3) := by decide +kernel
theorem ze_A_countAttractorsFrom_24 : decode zb_A_countAttractorsFrom 24 = .ok (.land, 1) := by decide +kernel
theorem ze_A_countAttractorsFrom_25 : decode zb_A_countAttractorsFrom 25 = .ok (.invokestatic 85, 3) := by decide +kernel
theorem ze_A_countAttractorsFrom_28 : decode zb_A_countAttractorsFrom 28 = .ok (.iadd, 1) := by decide +kernel
theorem ze_A_countAttractorsFrom_29 : decode zb_A_countAttractorsFrom 29 = .ok (.ireturn, 1) := by decide +kernel
theorem ze_C_countNodes_0 : decode zb_C_countNodes 0 = .ok (.aload_n 0, 1) := by decide +kernel
theorem ze_C_countNodes_1 : decode zb_C_countNodes 1 = .ok (.iconst 0, 1) := by decide +kernel
theorem ze_C_countNodes_2 : decode zb_C_countNodes 2 = .ok (.putfield 21, 3) := by decide +kernel
theorem ze_C_countNodes_5 : decode zb_C_countNodes 5 = .ok (.iconst 0, 1) := by decide +kernel
theorem ze_C_countNodes_6 : decode zb_C_countNodes 6 = .ok (.istore_n 3, 1) := by decide +kernel
theorem ze_C_countNodes_7 : decode zb_C_countNodes 7 = .ok (.iload_n 3, 1) := by decide +kernel
theorem ze_C_countNodes_8 : decode zb_C_countNodes 8 = .ok (.iconst 1, 1) := by decide +kernel
theorem ze_C_countNodes_9 : decode zb_C_countNodes 9 = .ok (.aload_n 1, 1) := by decide +kernel
theorem ze_C_countNodes_10 : decode zb_C_countNodes 10 = .ok (.getfield 25, 3) := by decide +kernel
theorem ze_C_countNodes_13 : decode zb_C_countNodes 13 = .ok (.ishl, 1) := by decide +kernel
theorem ze_C_countNodes_14 : decode zb_C_countNodes 14 = .ok (.if_icmp .ge 21, 3) := by decide +kernel
theorem ze_C_countNodes_17 : decode zb_C_countNodes 17 = .ok (.aload_n 0, 1) := by decide +kernel
theorem ze_C_countNodes_18 : decode zb_C_countNodes 18 = .ok (.getfield 9, 3) := by decide +kernel
theorem ze_C_countNodes_21 : decode zb_C_countNodes 21 = .ok (.iload_n 3, 1) := by decide +kernel
theorem ze_C_countNodes_22 : decode zb_C_countNodes 22 = .ok (.aload_n 1, 1) := by decide +kernel
theorem ze_C_countNodes_23 : decode zb_C_countNodes 23 = .ok (.iload_n 2, 1) := by decide +kernel
theorem ze_C_countNodes_24 : decode zb_C_countNodes 24 = .ok (.iload_n 3, 1) := by decide +kernel
theorem ze_C_countNodes_25 : decode zb_C_countNodes 25 = .ok (.invokevirtual 30, 3) := by decide +kernel
theorem ze_C_countNodes_28 : decode zb_C_countNodes 28 = .ok (.iastore, 1) := by decide +kernel
theorem ze_C_countNodes_29 : decode zb_C_countNodes 29 = .ok (.iinc 3 1, 3) := by decide +kernel
theorem ze_C_countNodes_32 : decode zb_C_countNodes 32 = .ok (.goto (-25), 3) := by decide +kernel
theorem ze_C_countNodes_35 : decode zb_C_countNodes 35 = .ok (.aload_n 1, 1) := by decide +kernel
theorem ze_C_countNodes_36 : decode zb_C_countNodes 36 = .ok (.getfield 25, 3) := by decide +kernel
theorem ze_C_countNodes_39 : decode zb_C_countNodes 39 = .ok (.iconst 1, 1) := by decide +kernel
theorem ze_C_countNodes_40 : decode zb_C_countNodes 40 = .ok (.isub, 1) := by decide +kernel
theorem ze_C_countNodes_41 : decode zb_C_countNodes 41 = .ok (.istore_n 3, 1) := by decide +kernel
theorem ze_C_countNodes_42 : decode zb_C_countNodes 42 = .ok (.iload_n 3, 1) := by decide +kernel
theorem ze_C_countNodes_43 : decode zb_C_countNodes 43 = .ok (.ifCond .lt 14, 3) := by decide +kernel
theorem ze_C_countNodes_46 : decode zb_C_countNodes 46 = .ok (.aload_n 0, 1) := by decide +kernel
theorem ze_C_countNodes_47 : decode zb_C_countNodes 47 = .ok (.iload_n 3, 1) := by decide +kernel
theorem ze_C_countNodes_48 : decode zb_C_countNodes 48 = .ok (.invokevirtual 34, 3) := by decide +kernel
theorem ze_C_countNodes_51 : decode zb_C_countNodes 51 = .ok (.iinc 3 (-1), 3) := by decide +kernel
theorem ze_C_countNodes_54 : decode zb_C_countNodes 54 = .ok (.goto (-12), 3) := by decide +kernel
theorem ze_C_countNodes_57 : decode zb_C_countNodes 57 = .ok (.aload_n 0, 1) := by decide +kernel
theorem ze_C_countNodes_58 : decode zb_C_countNodes 58 = .ok (.getfield 21, 3) := by decide +kernel
theorem ze_C_countNodes_61 : decode zb_C_countNodes 61 = .ok (.ireturn, 1) := by decide +kernel
theorem ze_C_joinAt_0 : decode zb_C_joinAt 0 = .ok (.aload_n 0, 1) := by decide +kernel
theorem ze_C_joinAt_1 : decode zb_C_joinAt 1 = .ok (.getfield 21, 3) := by decide +kernel
theorem ze_C_joinAt_4 : decode zb_C_joinAt 4 = .ok (.istore_n 2, 1) := by decide +kernel
theorem ze_C_joinAt_5 : decode zb_C_joinAt 5 = .ok (.iconst 1, 1) := by decide +kernel
theorem ze_C_joinAt_6 : decode zb_C_joinAt 6 = .ok (.iload_n 1, 1) := by decide +kernel
theorem ze_C_joinAt_7 : decode zb_C_joinAt 7 = .ok (.ishl, 1) := by decide +kernel
theorem ze_C_joinAt_8 : decode zb_C_joinAt 8 = .ok (.istore_n 3, 1) := by decide +kernel
theorem ze_C_joinAt_9 : decode zb_C_joinAt 9 = .ok (.iconst 0, 1) := by decide +kernel
theorem ze_C_joinAt_10 : decode zb_C_joinAt 10 = .ok (.istore 4, 2) := by decide +kernel
theorem ze_C_joinAt_12 : decode zb_C_joinAt 12 = .ok (.iload 4, 2) := by decide +kernel
theorem ze_C_joinAt_14 : decode zb_C_joinAt 14 = .ok (.iload_n 3, 1) := by decide +kernel
theorem ze_C_joinAt_15 : decode zb_C_joinAt 15 = .ok (.if_icmp .ge 37, 3) := by decide +kernel
theorem ze_C_joinAt_18 : decode zb_C_joinAt 18 = .ok (.aload_n 0, 1) := by decide +kernel
theorem ze_C_joinAt_19 : decode zb_C_joinAt 19 = .ok (.getfield 9, 3) := by decide +kernel
theorem ze_C_joinAt_22 : decode zb_C_joinAt 22 = .ok (.iload 4, 2) := by decide +kernel
theorem ze_C_joinAt_24 : decode zb_C_joinAt 24 = .ok (.aload_n 0, 1) := by decide +kernel
theorem ze_C_joinAt_25 : decode zb_C_joinAt 25 = .ok (.aload_n 0, 1) := by decide +kernel
theorem ze_C_joinAt_26 : decode zb_C_joinAt 26 = .ok (.getfield 9, 3) := by decide +kernel
theorem ze_C_joinAt_29 : decode zb_C_joinAt 29 = .ok (.iload 4, 2) := by decide +kernel
theorem ze_C_joinAt_31 : decode zb_C_joinAt 31 = .ok (.iaload, 1) := by decide +kernel
theorem ze_C_joinAt_32 : decode zb_C_joinAt 32 = .ok (.aload_n 0, 1) := by decide +kernel
theorem ze_C_joinAt_33 : decode zb_C_joinAt 33 = .ok (.getfield 9, 3) := by decide +kernel
theorem ze_C_joinAt_36 : decode zb_C_joinAt 36 = .ok (.iload 4, 2) := by decide +kernel
theorem ze_C_joinAt_38 : decode zb_C_joinAt 38 = .ok (.iload_n 3, 1) := by decide +kernel
theorem ze_C_joinAt_39 : decode zb_C_joinAt 39 = .ok (.iadd, 1) := by decide +kernel
theorem ze_C_joinAt_40 : decode zb_C_joinAt 40 = .ok (.iaload, 1) := by decide +kernel
theorem ze_C_joinAt_41 : decode zb_C_joinAt 41 = .ok (.iload_n 2, 1) := by decide +kernel
theorem ze_C_joinAt_42 : decode zb_C_joinAt 42 = .ok (.invokevirtual 38, 3) := by decide +kernel
theorem ze_C_joinAt_45 : decode zb_C_joinAt 45 = .ok (.iastore, 1) := by decide +kernel
theorem ze_C_joinAt_46 : decode zb_C_joinAt 46 = .ok (.iinc 4 1, 3) := by decide +kernel
theorem ze_C_joinAt_49 : decode zb_C_joinAt 49 = .ok (.goto (-37), 3) := by decide +kernel
theorem ze_C_joinAt_52 : decode zb_C_joinAt 52 = .ok (.return_, 1) := by decide +kernel
theorem ze_C_numberOf_0 : decode zb_C_numberOf 0 = .ok (.iload_n 1, 1) := by decide +kernel
theorem ze_C_numberOf_1 : decode zb_C_numberOf 1 = .ok (.iload_n 2, 1) := by decide +kernel
theorem ze_C_numberOf_2 : decode zb_C_numberOf 2 = .ok (.if_icmp .ne 5, 3) := by decide +kernel
theorem ze_C_numberOf_5 : decode zb_C_numberOf 5 = .ok (.iload_n 1, 1) := by decide +kernel
theorem ze_C_numberOf_6 : decode zb_C_numberOf 6 = .ok (.ireturn, 1) := by decide +kernel
theorem ze_C_numberOf_7 : decode zb_C_numberOf 7 = .ok (.iload_n 3, 1) := by decide +kernel
theorem ze_C_numberOf_8 : decode zb_C_numberOf 8 = .ok (.istore 4, 2) := by decide +kernel
theorem ze_C_numberOf_10 : decode zb_C_numberOf 10 = .ok (.iload 4, 2) := by decide +kernel
theorem ze_C_numberOf_12 : decode zb_C_numberOf 12 = .ok (.aload_n 0, 1) := by decide +kernel
theorem ze_C_numberOf_13 : decode zb_C_numberOf 13 = .ok (.getfield 21, 3) := by decide +kernel
theorem ze_C_numberOf_16 : decode zb_C_numberOf 16 = .ok (.if_icmp .ge 36, 3) := by decide +kernel
theorem ze_C_numberOf_19 : decode zb_C_numberOf 19 = .ok (.aload_n 0, 1) := by decide +kernel
theorem ze_C_numberOf_20 : decode zb_C_numberOf 20 = .ok (.getfield 15, 3) := by decide +kernel
theorem ze_C_numberOf_23 : decode zb_C_numberOf 23 = .ok (.iload 4, 2) := by decide +kernel
theorem ze_C_numberOf_25 : decode zb_C_numberOf 25 = .ok (.iaload, 1) := by decide +kernel
theorem ze_C_numberOf_26 : decode zb_C_numberOf 26 = .ok (.iload_n 1, 1) := by decide +kernel
theorem ze_C_numberOf_27 : decode zb_C_numberOf 27 = .ok (.if_icmp .ne 19, 3) := by decide +kernel
theorem ze_C_numberOf_30 : decode zb_C_numberOf 30 = .ok (.aload_n 0, 1) := by decide +kernel
theorem ze_C_numberOf_31 : decode zb_C_numberOf 31 = .ok (.getfield 18, 3) := by decide +kernel
theorem ze_C_numberOf_34 : decode zb_C_numberOf 34 = .ok (.iload 4, 2) := by decide +kernel
theorem ze_C_numberOf_36 : decode zb_C_numberOf 36 = .ok (.iaload, 1) := by decide +kernel
theorem ze_C_numberOf_37 : decode zb_C_numberOf 37 = .ok (.iload_n 2, 1) := by decide +kernel
theorem ze_C_numberOf_38 : decode zb_C_numberOf 38 = .ok (.if_icmp .ne 8, 3) := by decide +kernel
theorem ze_C_numberOf_41 : decode zb_C_numberOf 41 = .ok (.iload 4, 2) := by decide +kernel
theorem ze_C_numberOf_43 : decode zb_C_numberOf 43 = .ok (.iconst 2, 1) := by decide +kernel
theorem ze_C_numberOf_44 : decode zb_C_numberOf 44 = .ok (.iadd, 1) := by decide +kernel
theorem ze_C_numberOf_45 : decode zb_C_numberOf 45 = .ok (.ireturn, 1) := by decide +kernel
theorem ze_C_numberOf_46 : decode zb_C_numberOf 46 = .ok (.iinc 4 1, 3) := by decide +kernel
theorem ze_C_numberOf_49 : decode zb_C_numberOf 49 = .ok (.goto (-39), 3) := by decide +kernel
theorem ze_C_numberOf_52 : decode zb_C_numberOf 52 = .ok (.aload_n 0, 1) := by decide +kernel
theorem ze_C_numberOf_53 : decode zb_C_numberOf 53 = .ok (.getfield 15, 3) := by decide +kernel
theorem ze_C_numberOf_56 : decode zb_C_numberOf 56 = .ok (.aload_n 0, 1) := by decide +kernel
theorem ze_C_numberOf_57 : decode zb_C_numberOf 57 = .ok (.getfield 21, 3) := by decide +kernel
theorem ze_C_numberOf_60 : decode zb_C_numberOf 60 = .ok (.iload_n 1, 1) := by decide +kernel
theorem ze_C_numberOf_61 : decode zb_C_numberOf 61 = .ok (.iastore, 1) := by decide +kernel
theorem ze_C_numberOf_62 : decode zb_C_numberOf 62 = .ok (.aload_n 0, 1) := by decide +kernel
theorem ze_C_numberOf_63 : decode zb_C_numberOf 63 = .ok (.getfield 18, 3) := by decide +kernel
theorem ze_C_numberOf_66 : decode zb_C_numberOf 66 = .ok (.aload_n 0, 1) := by decide +kernel
theorem ze_C_numberOf_67 : decode zb_C_numberOf 67 = .ok (.getfield 21, 3) := by decide +kernel
theorem ze_C_numberOf_70 : decode zb_C_numberOf 70 = .ok (.iload_n 2, 1) := by decide +kernel
theorem ze_C_numberOf_71 : decode zb_C_numberOf 71 = .ok (.iastore, 1) := by decide +kernel
theorem ze_C_numberOf_72 : decode zb_C_numberOf 72 = .ok (.aload_n 0, 1) := by decide +kernel
theorem ze_C_numberOf_73 : decode zb_C_numberOf 73 = .ok (.dup, 1) := by decide +kernel
theorem ze_C_numberOf_74 : decode zb_C_numberOf 74 = .ok (.getfield 21, 3) := by decide +kernel
theorem ze_C_numberOf_77 : decode zb_C_numberOf 77 = .ok (.iconst 1, 1) := by decide +kernel
theorem ze_C_numberOf_78 : decode zb_C_numberOf 78 = .ok (.iadd, 1) := by decide +kernel
theorem ze_C_numberOf_79 : decode zb_C_numberOf 79 = .ok (.putfield 21, 3) := by decide +kernel
theorem ze_C_numberOf_82 : decode zb_C_numberOf 82 = .ok (.aload_n 0, 1) := by decide +kernel
theorem ze_C_numberOf_83 : decode zb_C_numberOf 83 = .ok (.getfield 21, 3) := by decide +kernel
theorem ze_C_numberOf_86 : decode zb_C_numberOf 86 = .ok (.iconst 1, 1) := by decide +kernel
theorem ze_C_numberOf_87 : decode zb_C_numberOf 87 = .ok (.iadd, 1) := by decide +kernel
theorem ze_C_numberOf_88 : decode zb_C_numberOf 88 = .ok (.ireturn, 1) := by decide +kernel
theorem ze_M_clear_0 : decode zb_M_clear 0 = .ok (.aload_n 0, 1) := by decide +kernel
theorem ze_M_clear_1 : decode zb_M_clear 1 = .ok (.iconst 0, 1) := by decide +kernel
theorem ze_M_clear_2 : decode zb_M_clear 2 = .ok (.putfield 15, 3) := by decide +kernel
theorem ze_M_clear_5 : decode zb_M_clear 5 = .ok (.return_, 1) := by decide +kernel
theorem ze_M_make_0 : decode zb_M_make 0 = .ok (.aload_n 0, 1) := by decide +kernel
theorem ze_M_make_1 : decode zb_M_make 1 = .ok (.iload_n 1, 1) := by decide +kernel
theorem ze_M_make_2 : decode zb_M_make 2 = .ok (.putfield 19, 3) := by decide +kernel
theorem ze_M_make_5 : decode zb_M_make 5 = .ok (.aload_n 0, 1) := by decide +kernel
theorem ze_M_make_6 : decode zb_M_make 6 = .ok (.lload_n 2, 1) := by decide +kernel
theorem ze_M_make_7 : decode zb_M_make 7 = .ok (.putfield 22, 3) := by decide +kernel
theorem ze_M_make_10 : decode zb_M_make 10 = .ok (.aload_n 0, 1) := by decide +kernel
theorem ze_M_make_11 : decode zb_M_make 11 = .ok (.lload 4, 2) := by decide +kernel
theorem ze_M_make_13 : decode zb_M_make 13 = .ok (.putfield 26, 3) := by decide +kernel
theorem ze_M_make_16 : decode zb_M_make 16 = .ok (.aload_n 0, 1) := by decide +kernel
theorem ze_M_make_17 : decode zb_M_make 17 = .ok (.iconst 0, 1) := by decide +kernel
theorem ze_M_make_18 : decode zb_M_make 18 = .ok (.putfield 15, 3) := by decide +kernel
theorem ze_M_make_21 : decode zb_M_make 21 = .ok (.aload_n 0, 1) := by decide +kernel
theorem ze_M_make_22 : decode zb_M_make 22 = .ok (.iconst 0, 1) := by decide +kernel
theorem ze_M_make_23 : decode zb_M_make 23 = .ok (.iconst 0, 1) := by decide +kernel
theorem ze_M_make_24 : decode zb_M_make 24 = .ok (.iconst 0, 1) := by decide +kernel
theorem ze_M_make_25 : decode zb_M_make 25 = .ok (.invokevirtual 29, 3) := by decide +kernel
theorem ze_M_make_28 : decode zb_M_make 28 = .ok (.return_, 1) := by decide +kernel
theorem ze_M_split_0 : decode zb_M_split 0 = .ok (.aload_n 0, 1) := by decide +kernel
theorem ze_M_split_1 : decode zb_M_split 1 = .ok (.iload_n 1, 1) := by decide +kernel
theorem ze_M_split_2 : decode zb_M_split 2 = .ok (.iload_n 2, 1) := by decide +kernel
theorem ze_M_split_3 : decode zb_M_split 3 = .ok (.invokevirtual 33, 3) := by decide +kernel
theorem ze_M_split_6 : decode zb_M_split 6 = .ok (.istore 4, 2) := by decide +kernel
theorem ze_M_split_8 : decode zb_M_split 8 = .ok (.iload 4, 2) := by decide +kernel
theorem ze_M_split_10 : decode zb_M_split 10 = .ok (.iconst 1, 1) := by decide +kernel
theorem ze_M_split_11 : decode zb_M_split 11 = .ok (.aload_n 0, 1) := by decide +kernel
theorem ze_M_split_12 : decode zb_M_split 12 = .ok (.getfield 19, 3) := by decide +kernel
theorem ze_M_split_15 : decode zb_M_split 15 = .ok (.iload_n 1, 1) := by decide +kernel
theorem ze_M_split_16 : decode zb_M_split 16 = .ok (.isub, 1) := by decide +kernel
theorem ze_M_split_17 : decode zb_M_split 17 = .ok (.ishl, 1) := by decide +kernel
theorem ze_M_split_18 : decode zb_M_split 18 = .ok (.if_icmp .ne 32, 3) := by decide +kernel
theorem ze_M_split_21 : decode zb_M_split 21 = .ok (.aload_n 0, 1) := by decide +kernel
theorem ze_M_split_22 : decode zb_M_split 22 = .ok (.getfield 9, 3) := by decide +kernel
theorem ze_M_split_25 : decode zb_M_split 25 = .ok (.aload_n 0, 1) := by decide +kernel
theorem ze_M_split_26 : decode zb_M_split 26 = .ok (.getfield 15, 3) := by decide +kernel
theorem ze_M_split_29 : decode zb_M_split 29 = .ok (.iload_n 3, 1) := by decide +kernel
theorem ze_M_split_30 : decode zb_M_split 30 = .ok (.aload_n 0, 1) := by decide +kernel
theorem ze_M_split_31 : decode zb_M_split 31 = .ok (.iload_n 1, 1) := by decide +kernel
theorem ze_M_split_32 : decode zb_M_split 32 = .ok (.invokevirtual 37, 3) := by decide +kernel
theorem ze_M_split_35 : decode zb_M_split 35 = .ok (.iadd, 1) := by decide +kernel
theorem ze_M_split_36 : decode zb_M_split 36 = .ok (.iastore, 1) := by decide +kernel
theorem ze_M_split_37 : decode zb_M_split 37 = .ok (.aload_n 0, 1) := by decide +kernel
theorem ze_M_split_38 : decode zb_M_split 38 = .ok (.dup, 1) := by decide +kernel
theorem ze_M_split_39 : decode zb_M_split 39 = .ok (.getfield 15, 3) := by decide +kernel
theorem ze_M_split_42 : decode zb_M_split 42 = .ok (.iconst 1, 1) := by decide +kernel
theorem ze_M_split_43 : decode zb_M_split 43 = .ok (.iadd, 1) := by decide +kernel
theorem ze_M_split_44 : decode zb_M_split 44 = .ok (.putfield 15, 3) := by decide +kernel
theorem ze_M_split_47 : decode zb_M_split 47 = .ok (.goto 71, 3) := by decide +kernel
theorem ze_M_split_50 : decode zb_M_split 50 = .ok (.iload 4, 2) := by decide +kernel
theorem ze_M_split_52 : decode zb_M_split 52 = .ok (.ifCond .le 66, 3) := by decide +kernel
theorem ze_M_split_55 : decode zb_M_split 55 = .ok (.iload_n 1, 1) := by decide +kernel
theorem ze_M_split_56 : decode zb_M_split 56 = .ok (.aload_n 0, 1) := by decide +kernel
theorem ze_M_split_57 : decode zb_M_split 57 = .ok (.getfield 19, 3) := by decide +kernel
theorem ze_M_split_60 : decode zb_M_split 60 = .ok (.if_icmp .ge 58, 3) := by decide +kernel
theorem ze_M_split_63 : decode zb_M_split 63 = .ok (.aload_n 0, 1) := by decide +kernel
theorem ze_M_split_64 : decode zb_M_split 64 = .ok (.iload_n 1, 1) := by decide +kernel
theorem ze_M_split_65 : decode zb_M_split 65 = .ok (.iload_n 2, 1) := by decide +kernel
theorem ze_M_split_66 : decode zb_M_split 66 = .ok (.invokevirtual 41, 3) := by decide +kernel
theorem ze_M_split_69 : decode zb_M_split 69 = .ok (.ifCond .eq 34, 3) := by decide +kernel
theorem ze_M_split_72 : decode zb_M_split 72 = .ok (.aload_n 0, 1) := by decide +kernel
theorem ze_M_split_73 : decode zb_M_split 73 = .ok (.iload_n 1, 1) := by decide +kernel
theorem ze_M_split_74 : decode zb_M_split 74 = .ok (.iconst 1, 1) := by decide +kernel
theorem ze_M_split_75 : decode zb_M_split 75 = .ok (.iadd, 1) := by decide +kernel
theorem ze_M_split_76 : decode zb_M_split 76 = .ok (.iload_n 2, 1) := by decide +kernel
theorem ze_M_split_77 : decode zb_M_split 77 = .ok (.iload_n 3, 1) := by decide +kernel
theorem ze_M_split_78 : decode zb_M_split 78 = .ok (.invokevirtual 29, 3) := by decide +kernel
theorem ze_M_split_81 : decode zb_M_split 81 = .ok (.aload_n 0, 1) := by decide +kernel
theorem ze_M_split_82 : decode zb_M_split 82 = .ok (.iload_n 1, 1) := by decide +kernel
theorem ze_M_split_83 : decode zb_M_split 83 = .ok (.iconst 1, 1) := by decide +kernel
theorem ze_M_split_84 : decode zb_M_split 84 = .ok (.iadd, 1) := by decide +kernel
theorem ze_M_split_85 : decode zb_M_split 85 = .ok (.iload_n 2, 1) := by decide +kernel
theorem ze_M_split_86 : decode zb_M_split 86 = .ok (.iconst 1, 1) := by decide +kernel
theorem ze_M_split_87 : decode zb_M_split 87 = .ok (.iload_n 1, 1) := by decide +kernel
theorem ze_M_split_88 : decode zb_M_split 88 = .ok (.ishl, 1) := by decide +kernel
theorem ze_M_split_89 : decode zb_M_split 89 = .ok (.iadd, 1) := by decide +kernel
theorem ze_M_split_90 : decode zb_M_split 90 = .ok (.iload_n 3, 1) := by decide +kernel
theorem ze_M_split_91 : decode zb_M_split 91 = .ok (.iload_n 1, 1) := by decide +kernel
theorem ze_M_split_92 : decode zb_M_split 92 = .ok (.iconst 1, 1) := by decide +kernel
theorem ze_M_split_93 : decode zb_M_split 93 = .ok (.invokestatic 45, 3) := by decide +kernel
theorem ze_M_split_96 : decode zb_M_split 96 = .ok (.iadd, 1) := by decide +kernel
theorem ze_M_split_97 : decode zb_M_split 97 = .ok (.invokevirtual 29, 3) := by decide +kernel
theorem ze_M_split_100 : decode zb_M_split 100 = .ok (.goto 18, 3) := by decide +kernel
theorem ze_M_split_103 : decode zb_M_split 103 = .ok (.aload_n 0, 1) := by decide +kernel
theorem ze_M_split_104 : decode zb_M_split 104 = .ok (.iload_n 1, 1) := by decide +kernel
theorem ze_M_split_105 : decode zb_M_split 105 = .ok (.iconst 1, 1) := by decide +kernel
theorem ze_M_split_106 : decode zb_M_split 106 = .ok (.iadd, 1) := by decide +kernel
theorem ze_M_split_107 : decode zb_M_split 107 = .ok (.iload_n 2, 1) := by decide +kernel
theorem ze_M_split_108 : decode zb_M_split 108 = .ok (.iload_n 3, 1) := by decide +kernel
theorem ze_M_split_109 : decode zb_M_split 109 = .ok (.iload_n 1, 1) := by decide +kernel
theorem ze_M_split_110 : decode zb_M_split 110 = .ok (.iconst 2, 1) := by decide +kernel
theorem ze_M_split_111 : decode zb_M_split 111 = .ok (.invokestatic 45, 3) := by decide +kernel
theorem ze_M_split_114 : decode zb_M_split 114 = .ok (.iadd, 1) := by decide +kernel
theorem ze_M_split_115 : decode zb_M_split 115 = .ok (.invokevirtual 29, 3) := by decide +kernel
theorem ze_M_split_118 : decode zb_M_split 118 = .ok (.return_, 1) := by decide +kernel
theorem ze_M_countInside_0 : decode zb_M_countInside 0 = .ok (.iconst 0, 1) := by decide +kernel
theorem ze_M_countInside_1 : decode zb_M_countInside 1 = .ok (.istore_n 3, 1) := by decide +kernel
theorem ze_M_countInside_2 : decode zb_M_countInside 2 = .ok (.iload_n 2, 1) := by decide +kernel
theorem ze_M_countInside_3 : decode zb_M_countInside 3 = .ok (.istore 4, 2) := by decide +kernel
theorem ze_M_countInside_5 : decode zb_M_countInside 5 = .ok (.iload 4, 2) := by decide +kernel
theorem ze_M_countInside_7 : decode zb_M_countInside 7 = .ok (.iconst 1, 1) := by decide +kernel
theorem ze_M_countInside_8 : decode zb_M_countInside 8 = .ok (.aload_n 0, 1) := by decide +kernel
theorem ze_M_countInside_9 : decode zb_M_countInside 9 = .ok (.getfield 19, 3) := by decide +kernel
theorem ze_M_countInside_12 : decode zb_M_countInside 12 = .ok (.ishl, 1) := by decide +kernel
theorem ze_M_countInside_13 : decode zb_M_countInside 13 = .ok (.if_icmp .ge 30, 3) := by decide +kernel
theorem ze_M_countInside_16 : decode zb_M_countInside 16 = .ok (.iload_n 3, 1) := by decide +kernel
theorem ze_M_countInside_17 : decode zb_M_countInside 17 = .ok (.aload_n 0, 1) := by decide +kernel
theorem ze_M_countInside_18 : decode zb_M_countInside 18 = .ok (.getfield 22, 3) := by decide +kernel
theorem ze_M_countInside_21 : decode zb_M_countInside 21 = .ok (.aload_n 0, 1) := by decide +kernel
theorem ze_M_countInside_22 : decode zb_M_countInside 22 = .ok (.getfield 26, 3) := by decide +kernel
theorem ze_M_countInside_25 : decode zb_M_countInside 25 = .ok (.iload 4, 2) := by decide +kernel
theorem ze_M_countInside_27 : decode zb_M_countInside 27 = .ok (.invokestatic 48, 3) := by decide +kernel
theorem ze_M_countInside_30 : decode zb_M_countInside 30 = .ok (.iadd, 1) := by decide +kernel
theorem ze_M_countInside_31 : decode zb_M_countInside 31 = .ok (.istore_n 3, 1) := by decide +kernel
theorem ze_M_countInside_32 : decode zb_M_countInside 32 = .ok (.iload 4, 2) := by decide +kernel
theorem ze_M_countInside_34 : decode zb_M_countInside 34 = .ok (.iconst 1, 1) := by decide +kernel
theorem ze_M_countInside_35 : decode zb_M_countInside 35 = .ok (.iload_n 1, 1) := by decide +kernel
theorem ze_M_countInside_36 : decode zb_M_countInside 36 = .ok (.ishl, 1) := by decide +kernel
theorem ze_M_countInside_37 : decode zb_M_countInside 37 = .ok (.iadd, 1) := by decide +kernel
theorem ze_M_countInside_38 : decode zb_M_countInside 38 = .ok (.istore 4, 2) := by decide +kernel
theorem ze_M_countInside_40 : decode zb_M_countInside 40 = .ok (.goto (-35), 3) := by decide +kernel
theorem ze_M_countInside_43 : decode zb_M_countInside 43 = .ok (.iload_n 3, 1) := by decide +kernel
theorem ze_M_countInside_44 : decode zb_M_countInside 44 = .ok (.ireturn, 1) := by decide +kernel
theorem ze_M_makesDifference_0 : decode zb_M_makesDifference 0 = .ok (.iconst 1, 1) := by decide +kernel
theorem ze_M_makesDifference_1 : decode zb_M_makesDifference 1 = .ok (.iload_n 1, 1) := by decide +kernel
theorem ze_M_makesDifference_2 : decode zb_M_makesDifference 2 = .ok (.ishl, 1) := by decide +kernel
theorem ze_M_makesDifference_3 : decode zb_M_makesDifference 3 = .ok (.istore_n 3, 1) := by decide +kernel
theorem ze_M_makesDifference_4 : decode zb_M_makesDifference 4 = .ok (.iload_n 2, 1) := by decide +kernel
theorem ze_M_makesDifference_5 : decode zb_M_makesDifference 5 = .ok (.istore 4, 2) := by decide +kernel
theorem ze_M_makesDifference_7 : decode zb_M_makesDifference 7 = .ok (.iload 4, 2) := by decide +kernel
theorem ze_M_makesDifference_9 : decode zb_M_makesDifference 9 = .ok (.iconst 1, 1) := by decide +kernel
theorem ze_M_makesDifference_10 : decode zb_M_makesDifference 10 = .ok (.aload_n 0, 1) := by decide +kernel
theorem ze_M_makesDifference_11 : decode zb_M_makesDifference 11 = .ok (.getfield 19, 3) := by decide +kernel
theorem ze_M_makesDifference_14 : decode zb_M_makesDifference 14 = .ok (.ishl, 1) := by decide +kernel
theorem ze_M_makesDifference_15 : decode zb_M_makesDifference 15 = .ok (.if_icmp .ge 47, 3) := by decide +kernel
theorem ze_M_makesDifference_18 : decode zb_M_makesDifference 18 = .ok (.aload_n 0, 1) := by decide +kernel
theorem ze_M_makesDifference_19 : decode zb_M_makesDifference 19 = .ok (.getfield 22, 3) := by decide +kernel
theorem ze_M_makesDifference_22 : decode zb_M_makesDifference 22 = .ok (.aload_n 0, 1) := by decide +kernel
theorem ze_M_makesDifference_23 : decode zb_M_makesDifference 23 = .ok (.getfield 26, 3) := by decide +kernel
theorem ze_M_makesDifference_26 : decode zb_M_makesDifference 26 = .ok (.iload 4, 2) := by decide +kernel
theorem ze_M_makesDifference_28 : decode zb_M_makesDifference 28 = .ok (.invokestatic 48, 3) := by decide +kernel
theorem ze_M_makesDifference_31 : decode zb_M_makesDifference 31 = .ok (.aload_n 0, 1) := by decide +kernel
theorem ze_M_makesDifference_32 : decode zb_M_makesDifference 32 = .ok (.getfield 22, 3) := by decide +kernel
theorem ze_M_makesDifference_35 : decode zb_M_makesDifference 35 = .ok (.aload_n 0, 1) := by decide +kernel
theorem ze_M_makesDifference_36 : decode zb_M_makesDifference 36 = .ok (.getfield 26, 3) := by decide +kernel
theorem ze_M_makesDifference_39 : decode zb_M_makesDifference 39 = .ok (.iload 4, 2) := by decide +kernel
theorem ze_M_makesDifference_41 : decode zb_M_makesDifference 41 = .ok (.iload_n 3, 1) := by decide +kernel
theorem ze_M_makesDifference_42 : decode zb_M_makesDifference 42 = .ok (.iadd, 1) := by decide +kernel
theorem ze_M_makesDifference_43 : decode zb_M_makesDifference 43 = .ok (.invokestatic 48, 3) := by decide +kernel
theorem ze_M_makesDifference_46 : decode zb_M_makesDifference 46 = .ok (.if_icmp .eq 5, 3) := by decide +kernel
theorem ze_M_makesDifference_49 : decode zb_M_makesDifference 49 = .ok (.iconst 1, 1) := by decide +kernel
theorem ze_M_makesDifference_50 : decode zb_M_makesDifference 50 = .ok (.ireturn, 1) := by decide +kernel
theorem ze_M_makesDifference_51 : decode zb_M_makesDifference 51 = .ok (.iload 4, 2) := by decide +kernel
theorem ze_M_makesDifference_53 : decode zb_M_makesDifference 53 = .ok (.iconst 2, 1) := by decide +kernel
theorem ze_M_makesDifference_54 : decode zb_M_makesDifference 54 = .ok (.iload_n 3, 1) := by decide +kernel
theorem ze_M_makesDifference_55 : decode zb_M_makesDifference 55 = .ok (.imul, 1) := by decide +kernel
theorem ze_M_makesDifference_56 : decode zb_M_makesDifference 56 = .ok (.iadd, 1) := by decide +kernel
theorem ze_M_makesDifference_57 : decode zb_M_makesDifference 57 = .ok (.istore 4, 2) := by decide +kernel
theorem ze_M_makesDifference_59 : decode zb_M_makesDifference 59 = .ok (.goto (-52), 3) := by decide +kernel
theorem ze_M_makesDifference_62 : decode zb_M_makesDifference 62 = .ok (.iconst 0, 1) := by decide +kernel
theorem ze_M_makesDifference_63 : decode zb_M_makesDifference 63 = .ok (.ireturn, 1) := by decide +kernel
theorem ze_M_anyFrom_0 : decode zb_M_anyFrom 0 = .ok (.iconst 0, 1) := by decide +kernel
theorem ze_M_anyFrom_1 : decode zb_M_anyFrom 1 = .ok (.istore_n 2, 1) := by decide +kernel
theorem ze_M_anyFrom_2 : decode zb_M_anyFrom 2 = .ok (.iload_n 1, 1) := by decide +kernel
theorem ze_M_anyFrom_3 : decode zb_M_anyFrom 3 = .ok (.istore_n 3, 1) := by decide +kernel
theorem ze_M_anyFrom_4 : decode zb_M_anyFrom 4 = .ok (.iload_n 3, 1) := by decide +kernel
theorem ze_M_anyFrom_5 : decode zb_M_anyFrom 5 = .ok (.aload_n 0, 1) := by decide +kernel
theorem ze_M_anyFrom_6 : decode zb_M_anyFrom 6 = .ok (.getfield 19, 3) := by decide +kernel
theorem ze_M_anyFrom_9 : decode zb_M_anyFrom 9 = .ok (.if_icmp .ge 17, 3) := by decide +kernel
theorem ze_M_anyFrom_12 : decode zb_M_anyFrom 12 = .ok (.iload_n 2, 1) := by decide +kernel
theorem ze_M_anyFrom_13 : decode zb_M_anyFrom 13 = .ok (.iload_n 3, 1) := by decide +kernel
theorem ze_M_anyFrom_14 : decode zb_M_anyFrom 14 = .ok (.iconst 2, 1) := by decide +kernel
theorem ze_M_anyFrom_15 : decode zb_M_anyFrom 15 = .ok (.invokestatic 45, 3) := by decide +kernel
theorem ze_M_anyFrom_18 : decode zb_M_anyFrom 18 = .ok (.iadd, 1) := by decide +kernel
theorem ze_M_anyFrom_19 : decode zb_M_anyFrom 19 = .ok (.istore_n 2, 1) := by decide +kernel
theorem ze_M_anyFrom_20 : decode zb_M_anyFrom 20 = .ok (.iinc 3 1, 3) := by decide +kernel
theorem ze_M_anyFrom_23 : decode zb_M_anyFrom 23 = .ok (.goto (-19), 3) := by decide +kernel
theorem ze_M_anyFrom_26 : decode zb_M_anyFrom 26 = .ok (.iload_n 2, 1) := by decide +kernel
theorem ze_M_anyFrom_27 : decode zb_M_anyFrom 27 = .ok (.ireturn, 1) := by decide +kernel
theorem ze_M_given_0 : decode zb_M_given 0 = .ok (.iload_n 1, 1) := by decide +kernel
theorem ze_M_given_1 : decode zb_M_given 1 = .ok (.iconst 2, 1) := by decide +kernel
theorem ze_M_given_2 : decode zb_M_given 2 = .ok (.iload_n 0, 1) := by decide +kernel
theorem ze_M_given_3 : decode zb_M_given 3 = .ok (.imul, 1) := by decide +kernel
theorem ze_M_given_4 : decode zb_M_given 4 = .ok (.ishl, 1) := by decide +kernel
theorem ze_M_given_5 : decode zb_M_given 5 = .ok (.ireturn, 1) := by decide +kernel
theorem ze_Q_byteOf_0 : decode zb_Q_byteOf 0 = .ok (.lload_n 0, 1) := by decide +kernel
theorem ze_Q_byteOf_1 : decode zb_Q_byteOf 1 = .ok (.bipush 8, 2) := by decide +kernel
theorem ze_Q_byteOf_3 : decode zb_Q_byteOf 3 = .ok (.iload_n 2, 1) := by decide +kernel
theorem ze_Q_byteOf_4 : decode zb_Q_byteOf 4 = .ok (.imul, 1) := by decide +kernel
theorem ze_Q_byteOf_5 : decode zb_Q_byteOf 5 = .ok (.lshr, 1) := by decide +kernel
theorem ze_Q_byteOf_6 : decode zb_Q_byteOf 6 = .ok (.ldc2_w 53, 3) := by decide +kernel
theorem ze_Q_byteOf_9 : decode zb_Q_byteOf 9 = .ok (.land, 1) := by decide +kernel
theorem ze_Q_byteOf_10 : decode zb_Q_byteOf 10 = .ok (.l2i, 1) := by decide +kernel
theorem ze_Q_byteOf_11 : decode zb_Q_byteOf 11 = .ok (.ireturn, 1) := by decide +kernel
theorem ze_Q_write_0 : decode zb_Q_write 0 = .ok (.iconst 0, 1) := by decide +kernel
theorem ze_Q_write_1 : decode zb_Q_write 1 = .ok (.istore_n 3, 1) := by decide +kernel
theorem ze_Q_write_2 : decode zb_Q_write 2 = .ok (.iconst 0, 1) := by decide +kernel
theorem ze_Q_write_3 : decode zb_Q_write 3 = .ok (.istore 4, 2) := by decide +kernel
theorem ze_Q_write_5 : decode zb_Q_write 5 = .ok (.iload 4, 2) := by decide +kernel
theorem ze_Q_write_7 : decode zb_Q_write 7 = .ok (.bipush 8, 2) := by decide +kernel
theorem ze_Q_write_9 : decode zb_Q_write 9 = .ok (.if_icmp .ge 51, 3) := by decide +kernel
theorem ze_Q_write_12 : decode zb_Q_write 12 = .ok (.lload_n 1, 1) := by decide +kernel
theorem ze_Q_write_13 : decode zb_Q_write 13 = .ok (.iload 4, 2) := by decide +kernel
theorem ze_Q_write_15 : decode zb_Q_write 15 = .ok (.invokestatic 55, 3) := by decide +kernel
theorem ze_Q_write_18 : decode zb_Q_write 18 = .ok (.istore 5, 2) := by decide +kernel
theorem ze_Q_write_20 : decode zb_Q_write 20 = .ok (.iload 5, 2) := by decide +kernel
theorem ze_Q_write_22 : decode zb_Q_write 22 = .ok (.ifCond .eq 19, 3) := by decide +kernel
theorem ze_Q_write_25 : decode zb_Q_write 25 = .ok (.iload 5, 2) := by decide +kernel
theorem ze_Q_write_27 : decode zb_Q_write 27 = .ok (.bipush 32, 2) := by decide +kernel
theorem ze_Q_write_29 : decode zb_Q_write 29 = .ok (.if_icmp .lt 10, 3) := by decide +kernel
theorem ze_Q_write_32 : decode zb_Q_write 32 = .ok (.iload 5, 2) := by decide +kernel
theorem ze_Q_write_34 : decode zb_Q_write 34 = .ok (.bipush 126, 2) := by decide +kernel
theorem ze_Q_write_36 : decode zb_Q_write 36 = .ok (.if_icmp .le 5, 3) := by decide +kernel
theorem ze_Q_write_39 : decode zb_Q_write 39 = .ok (.iconst 0, 1) := by decide +kernel
theorem ze_Q_write_40 : decode zb_Q_write 40 = .ok (.ireturn, 1) := by decide +kernel
theorem ze_Q_write_41 : decode zb_Q_write 41 = .ok (.iload_n 3, 1) := by decide +kernel
theorem ze_Q_write_42 : decode zb_Q_write 42 = .ok (.iload 5, 2) := by decide +kernel
theorem ze_Q_write_44 : decode zb_Q_write 44 = .ok (.ifCond .ne 7, 3) := by decide +kernel
theorem ze_Q_write_47 : decode zb_Q_write 47 = .ok (.iconst 0, 1) := by decide +kernel
theorem ze_Q_write_48 : decode zb_Q_write 48 = .ok (.goto 4, 3) := by decide +kernel
theorem ze_Q_write_51 : decode zb_Q_write 51 = .ok (.iconst 1, 1) := by decide +kernel
theorem ze_Q_write_52 : decode zb_Q_write 52 = .ok (.iadd, 1) := by decide +kernel
theorem ze_Q_write_53 : decode zb_Q_write 53 = .ok (.istore_n 3, 1) := by decide +kernel
theorem ze_Q_write_54 : decode zb_Q_write 54 = .ok (.iinc 4 1, 3) := by decide +kernel
theorem ze_Q_write_57 : decode zb_Q_write 57 = .ok (.goto (-52), 3) := by decide +kernel
theorem ze_Q_write_60 : decode zb_Q_write 60 = .ok (.aload_n 0, 1) := by decide +kernel
theorem ze_Q_write_61 : decode zb_Q_write 61 = .ok (.getfield 59, 3) := by decide +kernel
theorem ze_Q_write_64 : decode zb_Q_write 64 = .ok (.iload_n 3, 1) := by decide +kernel
theorem ze_Q_write_65 : decode zb_Q_write 65 = .ok (.iadd, 1) := by decide +kernel
theorem ze_Q_write_66 : decode zb_Q_write 66 = .ok (.sipush 240, 3) := by decide +kernel
theorem ze_Q_write_69 : decode zb_Q_write 69 = .ok (.if_icmp .le 5, 3) := by decide +kernel
theorem ze_Q_write_72 : decode zb_Q_write 72 = .ok (.iconst 0, 1) := by decide +kernel
theorem ze_Q_write_73 : decode zb_Q_write 73 = .ok (.ireturn, 1) := by decide +kernel
theorem ze_Q_write_74 : decode zb_Q_write 74 = .ok (.iconst 0, 1) := by decide +kernel
theorem ze_Q_write_75 : decode zb_Q_write 75 = .ok (.istore 4, 2) := by decide +kernel
theorem ze_Q_write_77 : decode zb_Q_write 77 = .ok (.iload 4, 2) := by decide +kernel
theorem ze_Q_write_79 : decode zb_Q_write 79 = .ok (.bipush 8, 2) := by decide +kernel
theorem ze_Q_write_81 : decode zb_Q_write 81 = .ok (.if_icmp .ge 43, 3) := by decide +kernel
theorem ze_Q_write_84 : decode zb_Q_write 84 = .ok (.lload_n 1, 1) := by decide +kernel
theorem ze_Q_write_85 : decode zb_Q_write 85 = .ok (.iload 4, 2) := by decide +kernel
theorem ze_Q_write_87 : decode zb_Q_write 87 = .ok (.invokestatic 55, 3) := by decide +kernel
theorem ze_Q_write_90 : decode zb_Q_write 90 = .ok (.istore 5, 2) := by decide +kernel
theorem ze_Q_write_92 : decode zb_Q_write 92 = .ok (.iload 5, 2) := by decide +kernel
theorem ze_Q_write_94 : decode zb_Q_write 94 = .ok (.ifCond .eq 24, 3) := by decide +kernel
theorem ze_Q_write_97 : decode zb_Q_write 97 = .ok (.aload_n 0, 1) := by decide +kernel
theorem ze_Q_write_98 : decode zb_Q_write 98 = .ok (.getfield 7, 3) := by decide +kernel
theorem ze_Q_write_101 : decode zb_Q_write 101 = .ok (.aload_n 0, 1) := by decide +kernel
theorem ze_Q_write_102 : decode zb_Q_write 102 = .ok (.getfield 59, 3) := by decide +kernel
theorem ze_Q_write_105 : decode zb_Q_write 105 = .ok (.iload 5, 2) := by decide +kernel
theorem ze_Q_write_107 : decode zb_Q_write 107 = .ok (.iastore, 1) := by decide +kernel
theorem ze_Q_write_108 : decode zb_Q_write 108 = .ok (.aload_n 0, 1) := by decide +kernel
theorem ze_Q_write_109 : decode zb_Q_write 109 = .ok (.dup, 1) := by decide +kernel
theorem ze_Q_write_110 : decode zb_Q_write 110 = .ok (.getfield 59, 3) := by decide +kernel
theorem ze_Q_write_113 : decode zb_Q_write 113 = .ok (.iconst 1, 1) := by decide +kernel
theorem ze_Q_write_114 : decode zb_Q_write 114 = .ok (.iadd, 1) := by decide +kernel
theorem ze_Q_write_115 : decode zb_Q_write 115 = .ok (.putfield 59, 3) := by decide +kernel
theorem ze_Q_write_118 : decode zb_Q_write 118 = .ok (.iinc 4 1, 3) := by decide +kernel
theorem ze_Q_write_121 : decode zb_Q_write 121 = .ok (.goto (-44), 3) := by decide +kernel
theorem ze_Q_write_124 : decode zb_Q_write 124 = .ok (.iconst 1, 1) := by decide +kernel
theorem ze_Q_write_125 : decode zb_Q_write 125 = .ok (.ireturn, 1) := by decide +kernel
theorem ze_Q_wipe_0 : decode zb_Q_wipe 0 = .ok (.aload_n 0, 1) := by decide +kernel
theorem ze_Q_wipe_1 : decode zb_Q_wipe 1 = .ok (.iconst 0, 1) := by decide +kernel
theorem ze_Q_wipe_2 : decode zb_Q_wipe 2 = .ok (.putfield 59, 3) := by decide +kernel
theorem ze_Q_wipe_5 : decode zb_Q_wipe 5 = .ok (.return_, 1) := by decide +kernel
theorem ze_Q_isName_0 : decode zb_Q_isName 0 = .ok (.iload_n 0, 1) := by decide +kernel
theorem ze_Q_isName_1 : decode zb_Q_isName 1 = .ok (.bipush 97, 2) := by decide +kernel
theorem ze_Q_isName_3 : decode zb_Q_isName 3 = .ok (.if_icmp .lt 13, 3) := by decide +kernel
theorem ze_Q_isName_6 : decode zb_Q_isName 6 = .ok (.iload_n 0, 1) := by decide +kernel
theorem ze_Q_isName_7 : decode zb_Q_isName 7 = .ok (.bipush 122, 2) := by decide +kernel
theorem ze_Q_isName_9 : decode zb_Q_isName 9 = .ok (.if_icmp .gt 7, 3) := by decide +kernel
theorem ze_Q_isName_12 : decode zb_Q_isName 12 = .ok (.iconst 1, 1) := by decide +kernel
theorem ze_Q_isName_13 : decode zb_Q_isName 13 = .ok (.goto 4, 3) := by decide +kernel
theorem ze_Q_isName_16 : decode zb_Q_isName 16 = .ok (.iconst 0, 1) := by decide +kernel
theorem ze_Q_isName_17 : decode zb_Q_isName 17 = .ok (.ireturn, 1) := by decide +kernel
theorem ze_Q_newGene_0 : decode zb_Q_newGene 0 = .ok (.iconst 0, 1) := by decide +kernel
theorem ze_Q_newGene_1 : decode zb_Q_newGene 1 = .ok (.istore_n 2, 1) := by decide +kernel
theorem ze_Q_newGene_2 : decode zb_Q_newGene 2 = .ok (.iload_n 2, 1) := by decide +kernel
theorem ze_Q_newGene_3 : decode zb_Q_newGene 3 = .ok (.aload_n 0, 1) := by decide +kernel
theorem ze_Q_newGene_4 : decode zb_Q_newGene 4 = .ok (.getfield 63, 3) := by decide +kernel
theorem ze_Q_newGene_7 : decode zb_Q_newGene 7 = .ok (.if_icmp .ge 21, 3) := by decide +kernel
theorem ze_Q_newGene_10 : decode zb_Q_newGene 10 = .ok (.aload_n 0, 1) := by decide +kernel
theorem ze_Q_newGene_11 : decode zb_Q_newGene 11 = .ok (.getfield 26, 3) := by decide +kernel
theorem ze_Q_newGene_14 : decode zb_Q_newGene 14 = .ok (.iload_n 2, 1) := by decide +kernel
theorem ze_Q_newGene_15 : decode zb_Q_newGene 15 = .ok (.iaload, 1) := by decide +kernel
theorem ze_Q_newGene_16 : decode zb_Q_newGene 16 = .ok (.iload_n 1, 1) := by decide +kernel
theorem ze_Q_newGene_17 : decode zb_Q_newGene 17 = .ok (.if_icmp .ne 5, 3) := by decide +kernel
theorem ze_Q_newGene_20 : decode zb_Q_newGene 20 = .ok (.iload_n 2, 1) := by decide +kernel
theorem ze_Q_newGene_21 : decode zb_Q_newGene 21 = .ok (.ireturn, 1) := by decide +kernel
theorem ze_Q_newGene_22 : decode zb_Q_newGene 22 = .ok (.iinc 2 1, 3) := by decide +kernel
theorem ze_Q_newGene_25 : decode zb_Q_newGene 25 = .ok (.goto (-23), 3) := by decide +kernel
theorem ze_Q_newGene_28 : decode zb_Q_newGene 28 = .ok (.iconst (-1), 1) := by decide +kernel
theorem ze_Q_newGene_29 : decode zb_Q_newGene 29 = .ok (.ireturn, 1) := by decide +kernel
theorem ze_Q_pushValue_0 : decode zb_Q_pushValue 0 = .ok (.aload_n 0, 1) := by decide +kernel
theorem ze_Q_pushValue_1 : decode zb_Q_pushValue 1 = .ok (.getfield 32, 3) := by decide +kernel
theorem ze_Q_pushValue_4 : decode zb_Q_pushValue 4 = .ok (.aload_n 0, 1) := by decide +kernel
theorem ze_Q_pushValue_5 : decode zb_Q_pushValue 5 = .ok (.getfield 66, 3) := by decide +kernel
theorem ze_Q_pushValue_8 : decode zb_Q_pushValue 8 = .ok (.lload_n 1, 1) := by decide +kernel
theorem ze_Q_pushValue_9 : decode zb_Q_pushValue 9 = .ok (.lastore, 1) := by decide +kernel
theorem ze_Q_pushValue_10 : decode zb_Q_pushValue 10 = .ok (.aload_n 0, 1) := by decide +kernel
theorem ze_Q_pushValue_11 : decode zb_Q_pushValue 11 = .ok (.getfield 35, 3) := by decide +kernel
theorem ze_Q_pushValue_14 : decode zb_Q_pushValue 14 = .ok (.aload_n 0, 1) := by decide +kernel
theorem ze_Q_pushValue_15 : decode zb_Q_pushValue 15 = .ok (.getfield 66, 3) := by decide +kernel
theorem ze_Q_pushValue_18 : decode zb_Q_pushValue 18 = .ok (.lload_n 3, 1) := by decide +kernel
theorem ze_Q_pushValue_19 : decode zb_Q_pushValue 19 = .ok (.lastore, 1) := by decide +kernel
theorem ze_Q_pushValue_20 : decode zb_Q_pushValue 20 = .ok (.aload_n 0, 1) := by decide +kernel
theorem ze_Q_pushValue_21 : decode zb_Q_pushValue 21 = .ok (.dup, 1) := by decide +kernel
theorem ze_Q_pushValue_22 : decode zb_Q_pushValue 22 = .ok (.getfield 66, 3) := by decide +kernel
theorem ze_Q_pushValue_25 : decode zb_Q_pushValue 25 = .ok (.iconst 1, 1) := by decide +kernel
theorem ze_Q_pushValue_26 : decode zb_Q_pushValue 26 = .ok (.iadd, 1) := by decide +kernel
theorem ze_Q_pushValue_27 : decode zb_Q_pushValue 27 = .ok (.putfield 66, 3) := by decide +kernel
theorem ze_Q_pushValue_30 : decode zb_Q_pushValue 30 = .ok (.return_, 1) := by decide +kernel
theorem ze_Q_apply_0 : decode zb_Q_apply 0 = .ok (.aload_n 0, 1) := by decide +kernel
theorem ze_Q_apply_1 : decode zb_Q_apply 1 = .ok (.dup, 1) := by decide +kernel
theorem ze_Q_apply_2 : decode zb_Q_apply 2 = .ok (.getfield 69, 3) := by decide +kernel
theorem ze_Q_apply_5 : decode zb_Q_apply 5 = .ok (.iconst 1, 1) := by decide +kernel
theorem ze_Q_apply_6 : decode zb_Q_apply 6 = .ok (.isub, 1) := by decide +kernel
theorem ze_Q_apply_7 : decode zb_Q_apply 7 = .ok (.putfield 69, 3) := by decide +kernel
theorem ze_Q_apply_10 : decode zb_Q_apply 10 = .ok (.aload_n 0, 1) := by decide +kernel
theorem ze_Q_apply_11 : decode zb_Q_apply 11 = .ok (.getfield 29, 3) := by decide +kernel
theorem ze_Q_apply_14 : decode zb_Q_apply 14 = .ok (.aload_n 0, 1) := by decide +kernel
theorem ze_Q_apply_15 : decode zb_Q_apply 15 = .ok (.getfield 69, 3) := by decide +kernel
theorem ze_Q_apply_18 : decode zb_Q_apply 18 = .ok (.iaload, 1) := by decide +kernel
theorem ze_Q_apply_19 : decode zb_Q_apply 19 = .ok (.istore_n 1, 1) := by decide +kernel
theorem ze_Q_apply_20 : decode zb_Q_apply 20 = .ok (.iload_n 1, 1) := by decide +kernel
theorem ze_Q_apply_21 : decode zb_Q_apply 21 = .ok (.bipush 33, 2) := by decide +kernel
theorem ze_Q_apply_23 : decode zb_Q_apply 23 = .ok (.if_icmp .ne 66, 3) := by decide +kernel
theorem ze_Q_apply_26 : decode zb_Q_apply 26 = .ok (.aload_n 0, 1) := by decide +kernel
theorem ze_Q_apply_27 : decode zb_Q_apply 27 = .ok (.getfield 32, 3) := by decide +kernel
theorem ze_Q_apply_30 : decode zb_Q_apply 30 = .ok (.aload_n 0, 1) := by decide +kernel
theorem ze_Q_apply_31 : decode zb_Q_apply 31 = .ok (.getfield 66, 3) := by decide +kernel
theorem ze_Q_apply_34 : decode zb_Q_apply 34 = .ok (.iconst 1, 1) := by decide +kernel
theorem ze_Q_apply_35 : decode zb_Q_apply 35 = .ok (.isub, 1) := by decide +kernel
theorem ze_Q_apply_36 : decode zb_Q_apply 36 = .ok (.aload_n 0, 1) := by decide +kernel
theorem ze_Q_apply_37 : decode zb_Q_apply 37 = .ok (.getfield 32, 3) := by decide +kernel
theorem ze_Q_apply_40 : decode zb_Q_apply 40 = .ok (.aload_n 0, 1) := by decide +kernel
theorem ze_Q_apply_41 : decode zb_Q_apply 41 = .ok (.getfield 66, 3) := by decide +kernel
theorem ze_Q_apply_44 : decode zb_Q_apply 44 = .ok (.iconst 1, 1) := by decide +kernel
theorem ze_Q_apply_45 : decode zb_Q_apply 45 = .ok (.isub, 1) := by decide +kernel
theorem ze_Q_apply_46 : decode zb_Q_apply 46 = .ok (.laload, 1) := by decide +kernel
theorem ze_Q_apply_47 : decode zb_Q_apply 47 = .ok (.ldc2_w 72, 3) := by decide +kernel
theorem ze_Q_apply_50 : decode zb_Q_apply 50 = .ok (.lxor, 1) := by decide +kernel
theorem ze_Q_apply_51 : decode zb_Q_apply 51 = .ok (.lastore, 1) := by decide +kernel
theorem ze_Q_apply_52 : decode zb_Q_apply 52 = .ok (.aload_n 0, 1) := by decide +kernel
theorem ze_Q_apply_53 : decode zb_Q_apply 53 = .ok (.getfield 35, 3) := by decide +kernel
theorem ze_Q_apply_56 : decode zb_Q_apply 56 = .ok (.aload_n 0, 1) := by decide +kernel
theorem ze_Q_apply_57 : decode zb_Q_apply 57 = .ok (.getfield 66, 3) := by decide +kernel
theorem ze_Q_apply_60 : decode zb_Q_apply 60 = .ok (.iconst 1, 1) := by decide +kernel
theorem ze_Q_apply_61 : decode zb_Q_apply 61 = .ok (.isub, 1) := by decide +kernel
theorem ze_Q_apply_62 : decode zb_Q_apply 62 = .ok (.aload_n 0, 1) := by decide +kernel
theorem ze_Q_apply_63 : decode zb_Q_apply 63 = .ok (.getfield 35, 3) := by decide +kernel
theorem ze_Q_apply_66 : decode zb_Q_apply 66 = .ok (.aload_n 0, 1) := by decide +kernel
theorem ze_Q_apply_67 : decode zb_Q_apply 67 = .ok (.getfield 66, 3) := by decide +kernel
theorem ze_Q_apply_70 : decode zb_Q_apply 70 = .ok (.iconst 1, 1) := by decide +kernel
theorem ze_Q_apply_71 : decode zb_Q_apply 71 = .ok (.isub, 1) := by decide +kernel
theorem ze_Q_apply_72 : decode zb_Q_apply 72 = .ok (.laload, 1) := by decide +kernel
theorem ze_Q_apply_73 : decode zb_Q_apply 73 = .ok (.ldc2_w 72, 3) := by decide +kernel
theorem ze_Q_apply_76 : decode zb_Q_apply 76 = .ok (.lxor, 1) := by decide +kernel
theorem ze_Q_apply_77 : decode zb_Q_apply 77 = .ok (.lastore, 1) := by decide +kernel
theorem ze_Q_apply_78 : decode zb_Q_apply 78 = .ok (.aload_n 0, 1) := by decide +kernel
theorem ze_Q_apply_79 : decode zb_Q_apply 79 = .ok (.dup, 1) := by decide +kernel
theorem ze_Q_apply_80 : decode zb_Q_apply 80 = .ok (.getfield 74, 3) := by decide +kernel
theorem ze_Q_apply_83 : decode zb_Q_apply 83 = .ok (.iconst 1, 1) := by decide +kernel
theorem ze_Q_apply_84 : decode zb_Q_apply 84 = .ok (.isub, 1) := by decide +kernel
theorem ze_Q_apply_85 : decode zb_Q_apply 85 = .ok (.putfield 74, 3) := by decide +kernel
theorem ze_Q_apply_88 : decode zb_Q_apply 88 = .ok (.return_, 1) := by decide +kernel
theorem ze_Q_apply_89 : decode zb_Q_apply 89 = .ok (.aload_n 0, 1) := by decide +kernel
theorem ze_Q_apply_90 : decode zb_Q_apply 90 = .ok (.dup, 1) := by decide +kernel
theorem ze_Q_apply_91 : decode zb_Q_apply 91 = .ok (.getfield 66, 3) := by decide +kernel
theorem ze_Q_apply_94 : decode zb_Q_apply 94 = .ok (.iconst 1, 1) := by decide +kernel
theorem ze_Q_apply_95 : decode zb_Q_apply 95 = .ok (.isub, 1) := by decide +kernel
theorem ze_Q_apply_96 : decode zb_Q_apply 96 = .ok (.putfield 66, 3) := by decide +kernel
theorem ze_Q_apply_99 : decode zb_Q_apply 99 = .ok (.aload_n 0, 1) := by decide +kernel
theorem ze_Q_apply_100 : decode zb_Q_apply 100 = .ok (.getfield 32, 3) := by decide +kernel
theorem ze_Q_apply_103 : decode zb_Q_apply 103 = .ok (.aload_n 0, 1) := by decide +kernel
theorem ze_Q_apply_104 : decode zb_Q_apply 104 = .ok (.getfield 66, 3) := by decide +kernel
theorem ze_Q_apply_107 : decode zb_Q_apply 107 = .ok (.laload, 1) := by decide +kernel
theorem ze_Q_apply_108 : decode zb_Q_apply 108 = .ok (.lstore_n 2, 1) := by decide +kernel
theorem ze_Q_apply_109 : decode zb_Q_apply 109 = .ok (.aload_n 0, 1) := by decide +kernel
theorem ze_Q_apply_110 : decode zb_Q_apply 110 = .ok (.getfield 35, 3) := by decide +kernel
theorem ze_Q_apply_113 : decode zb_Q_apply 113 = .ok (.aload_n 0, 1) := by decide +kernel
theorem ze_Q_apply_114 : decode zb_Q_apply 114 = .ok (.getfield 66, 3) := by decide +kernel
theorem ze_Q_apply_117 : decode zb_Q_apply 117 = .ok (.laload, 1) := by decide +kernel
theorem ze_Q_apply_118 : decode zb_Q_apply 118 = .ok (.lstore 4, 2) := by decide +kernel
theorem ze_Q_apply_120 : decode zb_Q_apply 120 = .ok (.aload_n 0, 1) := by decide +kernel
theorem ze_Q_apply_121 : decode zb_Q_apply 121 = .ok (.getfield 32, 3) := by decide +kernel
theorem ze_Q_apply_124 : decode zb_Q_apply 124 = .ok (.aload_n 0, 1) := by decide +kernel
theorem ze_Q_apply_125 : decode zb_Q_apply 125 = .ok (.getfield 66, 3) := by decide +kernel
theorem ze_Q_apply_128 : decode zb_Q_apply 128 = .ok (.iconst 1, 1) := by decide +kernel
theorem ze_Q_apply_129 : decode zb_Q_apply 129 = .ok (.isub, 1) := by decide +kernel
theorem ze_Q_apply_130 : decode zb_Q_apply 130 = .ok (.iload_n 1, 1) := by decide +kernel
theorem ze_Q_apply_131 : decode zb_Q_apply 131 = .ok (.bipush 38, 2) := by decide +kernel
theorem ze_Q_apply_133 : decode zb_Q_apply 133 = .ok (.if_icmp .ne 19, 3) := by decide +kernel
theorem ze_Q_apply_136 : decode zb_Q_apply 136 = .ok (.aload_n 0, 1) := by decide +kernel
theorem ze_Q_apply_137 : decode zb_Q_apply 137 = .ok (.getfield 32, 3) := by decide +kernel
theorem ze_Q_apply_140 : decode zb_Q_apply 140 = .ok (.aload_n 0, 1) := by decide +kernel
theorem ze_Q_apply_141 : decode zb_Q_apply 141 = .ok (.getfield 66, 3) := by decide +kernel
theorem ze_Q_apply_144 : decode zb_Q_apply 144 = .ok (.iconst 1, 1) := by decide +kernel
theorem ze_Q_apply_145 : decode zb_Q_apply 145 = .ok (.isub, 1) := by decide +kernel
theorem ze_Q_apply_146 : decode zb_Q_apply 146 = .ok (.laload, 1) := by decide +kernel
theorem ze_Q_apply_147 : decode zb_Q_apply 147 = .ok (.lload_n 2, 1) := by decide +kernel
theorem ze_Q_apply_148 : decode zb_Q_apply 148 = .ok (.land, 1) := by decide +kernel
theorem ze_Q_apply_149 : decode zb_Q_apply 149 = .ok (.goto 16, 3) := by decide +kernel
theorem ze_Q_apply_152 : decode zb_Q_apply 152 = .ok (.aload_n 0, 1) := by decide +kernel
theorem ze_Q_apply_153 : decode zb_Q_apply 153 = .ok (.getfield 32, 3) := by decide +kernel
theorem ze_Q_apply_156 : decode zb_Q_apply 156 = .ok (.aload_n 0, 1) := by decide +kernel
theorem ze_Q_apply_157 : decode zb_Q_apply 157 = .ok (.getfield 66, 3) := by decide +kernel
theorem ze_Q_apply_160 : decode zb_Q_apply 160 = .ok (.iconst 1, 1) := by decide +kernel
theorem ze_Q_apply_161 : decode zb_Q_apply 161 = .ok (.isub, 1) := by decide +kernel
theorem ze_Q_apply_162 : decode zb_Q_apply 162 = .ok (.laload, 1) := by decide +kernel
theorem ze_Q_apply_163 : decode zb_Q_apply 163 = .ok (.lload_n 2, 1) := by decide +kernel
theorem ze_Q_apply_164 : decode zb_Q_apply 164 = .ok (.lor, 1) := by decide +kernel
theorem ze_Q_apply_165 : decode zb_Q_apply 165 = .ok (.lastore, 1) := by decide +kernel
theorem ze_Q_apply_166 : decode zb_Q_apply 166 = .ok (.aload_n 0, 1) := by decide +kernel
theorem ze_Q_apply_167 : decode zb_Q_apply 167 = .ok (.getfield 35, 3) := by decide +kernel
theorem ze_Q_apply_170 : decode zb_Q_apply 170 = .ok (.aload_n 0, 1) := by decide +kernel
theorem ze_Q_apply_171 : decode zb_Q_apply 171 = .ok (.getfield 66, 3) := by decide +kernel
theorem ze_Q_apply_174 : decode zb_Q_apply 174 = .ok (.iconst 1, 1) := by decide +kernel
theorem ze_Q_apply_175 : decode zb_Q_apply 175 = .ok (.isub, 1) := by decide +kernel
theorem ze_Q_apply_176 : decode zb_Q_apply 176 = .ok (.iload_n 1, 1) := by decide +kernel
theorem ze_Q_apply_177 : decode zb_Q_apply 177 = .ok (.bipush 38, 2) := by decide +kernel
theorem ze_Q_apply_179 : decode zb_Q_apply 179 = .ok (.if_icmp .ne 20, 3) := by decide +kernel
theorem ze_Q_apply_182 : decode zb_Q_apply 182 = .ok (.aload_n 0, 1) := by decide +kernel
theorem ze_Q_apply_183 : decode zb_Q_apply 183 = .ok (.getfield 35, 3) := by decide +kernel
theorem ze_Q_apply_186 : decode zb_Q_apply 186 = .ok (.aload_n 0, 1) := by decide +kernel
theorem ze_Q_apply_187 : decode zb_Q_apply 187 = .ok (.getfield 66, 3) := by decide +kernel
theorem ze_Q_apply_190 : decode zb_Q_apply 190 = .ok (.iconst 1, 1) := by decide +kernel
theorem ze_Q_apply_191 : decode zb_Q_apply 191 = .ok (.isub, 1) := by decide +kernel
theorem ze_Q_apply_192 : decode zb_Q_apply 192 = .ok (.laload, 1) := by decide +kernel
theorem ze_Q_apply_193 : decode zb_Q_apply 193 = .ok (.lload 4, 2) := by decide +kernel
theorem ze_Q_apply_195 : decode zb_Q_apply 195 = .ok (.land, 1) := by decide +kernel
theorem ze_Q_apply_196 : decode zb_Q_apply 196 = .ok (.goto 17, 3) := by decide +kernel
theorem ze_Q_apply_199 : decode zb_Q_apply 199 = .ok (.aload_n 0, 1) := by decide +kernel
theorem ze_Q_apply_200 : decode zb_Q_apply 200 = .ok (.getfield 35, 3) := by decide +kernel
theorem ze_Q_apply_203 : decode zb_Q_apply 203 = .ok (.aload_n 0, 1) := by decide +kernel
theorem ze_Q_apply_204 : decode zb_Q_apply 204 = .ok (.getfield 66, 3) := by decide +kernel
theorem ze_Q_apply_207 : decode zb_Q_apply 207 = .ok (.iconst 1, 1) := by decide +kernel
theorem ze_Q_apply_208 : decode zb_Q_apply 208 = .ok (.isub, 1) := by decide +kernel
theorem ze_Q_apply_209 : decode zb_Q_apply 209 = .ok (.laload, 1) := by decide +kernel
theorem ze_Q_apply_210 : decode zb_Q_apply 210 = .ok (.lload 4, 2) := by decide +kernel
theorem ze_Q_apply_212 : decode zb_Q_apply 212 = .ok (.lor, 1) := by decide +kernel
theorem ze_Q_apply_213 : decode zb_Q_apply 213 = .ok (.lastore, 1) := by decide +kernel
theorem ze_Q_apply_214 : decode zb_Q_apply 214 = .ok (.return_, 1) := by decide +kernel
theorem ze_Q_waits_0 : decode zb_Q_waits 0 = .ok (.aload_n 0, 1) := by decide +kernel
theorem ze_Q_waits_1 : decode zb_Q_waits 1 = .ok (.getfield 69, 3) := by decide +kernel
theorem ze_Q_waits_4 : decode zb_Q_waits 4 = .ok (.ifCond .le 22, 3) := by decide +kernel
theorem ze_Q_waits_7 : decode zb_Q_waits 7 = .ok (.aload_n 0, 1) := by decide +kernel
theorem ze_Q_waits_8 : decode zb_Q_waits 8 = .ok (.getfield 29, 3) := by decide +kernel
theorem ze_Q_waits_11 : decode zb_Q_waits 11 = .ok (.aload_n 0, 1) := by decide +kernel
theorem ze_Q_waits_12 : decode zb_Q_waits 12 = .ok (.getfield 69, 3) := by decide +kernel
theorem ze_Q_waits_15 : decode zb_Q_waits 15 = .ok (.iconst 1, 1) := by decide +kernel
theorem ze_Q_waits_16 : decode zb_Q_waits 16 = .ok (.isub, 1) := by decide +kernel
theorem ze_Q_waits_17 : decode zb_Q_waits 17 = .ok (.iaload, 1) := by decide +kernel
theorem ze_Q_waits_18 : decode zb_Q_waits 18 = .ok (.iload_n 1, 1) := by decide +kernel
theorem ze_Q_waits_19 : decode zb_Q_waits 19 = .ok (.if_icmp .ne 7, 3) := by decide +kernel
theorem ze_Q_waits_22 : decode zb_Q_waits 22 = .ok (.iconst 1, 1) := by decide +kernel
theorem ze_Q_waits_23 : decode zb_Q_waits 23 = .ok (.goto 4, 3) := by decide +kernel
theorem ze_Q_waits_26 : decode zb_Q_waits 26 = .ok (.iconst 0, 1) := by decide +kernel
theorem ze_Q_waits_27 : decode zb_Q_waits 27 = .ok (.ireturn, 1) := by decide +kernel
theorem ze_Q_operand_0 : decode zb_Q_operand 0 = .ok (.iload_n 1, 1) := by decide +kernel
theorem ze_Q_operand_1 : decode zb_Q_operand 1 = .ok (.bipush 49, 2) := by decide +kernel
theorem ze_Q_operand_3 : decode zb_Q_operand 3 = .ok (.if_icmp .ne 9, 3) := by decide +kernel
theorem ze_Q_operand_6 : decode zb_Q_operand 6 = .ok (.ldc2_w 72, 3) := by decide +kernel
theorem ze_Q_operand_9 : decode zb_Q_operand 9 = .ok (.goto 4, 3) := by decide +kernel
theorem ze_Q_operand_12 : decode zb_Q_operand 12 = .ok (.lconst 0, 1) := by decide +kernel
theorem ze_Q_operand_13 : decode zb_Q_operand 13 = .ok (.lstore_n 2, 1) := by decide +kernel
theorem ze_Q_operand_14 : decode zb_Q_operand 14 = .ok (.lload_n 2, 1) := by decide +kernel
theorem ze_Q_operand_15 : decode zb_Q_operand 15 = .ok (.lstore 4, 2) := by decide +kernel
theorem ze_Q_operand_17 : decode zb_Q_operand 17 = .ok (.iload_n 1, 1) := by decide +kernel
theorem ze_Q_operand_18 : decode zb_Q_operand 18 = .ok (.invokestatic 77, 3) := by decide +kernel
theorem ze_Q_operand_21 : decode zb_Q_operand 21 = .ok (.ifCond .eq 11, 3) := by decide +kernel
theorem ze_Q_operand_24 : decode zb_Q_operand 24 = .ok (.aload_n 0, 1) := by decide +kernel
theorem ze_Q_operand_25 : decode zb_Q_operand 25 = .ok (.iload_n 1, 1) := by decide +kernel
theorem ze_Q_operand_26 : decode zb_Q_operand 26 = .ok (.invokevirtual 81, 3) := by decide +kernel
theorem ze_Q_operand_29 : decode zb_Q_operand 29 = .ok (.goto 4, 3) := by decide +kernel
theorem ze_Q_operand_32 : decode zb_Q_operand 32 = .ok (.iconst (-1), 1) := by decide +kernel
theorem ze_Q_operand_33 : decode zb_Q_operand 33 = .ok (.istore 6, 2) := by decide +kernel
theorem ze_Q_operand_35 : decode zb_Q_operand 35 = .ok (.iconst 0, 1) := by decide +kernel
theorem ze_Q_operand_36 : decode zb_Q_operand 36 = .ok (.istore 7, 2) := by decide +kernel
theorem ze_Q_operand_38 : decode zb_Q_operand 38 = .ok (.iload 7, 2) := by decide +kernel
theorem ze_Q_operand_40 : decode zb_Q_operand 40 = .ok (.bipush 64, 2) := by decide +kernel
theorem ze_Q_operand_42 : decode zb_Q_operand 42 = .ok (.if_icmp .ge 47, 3) := by decide +kernel
theorem ze_Q_operand_45 : decode zb_Q_operand 45 = .ok (.iload 6, 2) := by decide +kernel
theorem ze_Q_operand_47 : decode zb_Q_operand 47 = .ok (.ifCond .lt 42, 3) := by decide +kernel
theorem ze_Q_operand_50 : decode zb_Q_operand 50 = .ok (.lload_n 2, 1) := by decide +kernel
theorem ze_Q_operand_51 : decode zb_Q_operand 51 = .ok (.iload 7, 2) := by decide +kernel
theorem ze_Q_operand_53 : decode zb_Q_operand 53 = .ok (.iload 6, 2) := by decide +kernel
theorem ze_Q_operand_55 : decode zb_Q_operand 55 = .ok (.ishr, 1) := by decide +kernel
theorem ze_Q_operand_56 : decode zb_Q_operand 56 = .ok (.iconst 1, 1) := by decide +kernel
theorem ze_Q_operand_57 : decode zb_Q_operand 57 = .ok (.iand, 1) := by decide +kernel
theorem ze_Q_operand_58 : decode zb_Q_operand 58 = .ok (.i2l, 1) := by decide +kernel
theorem ze_Q_operand_59 : decode zb_Q_operand 59 = .ok (.iload 7, 2) := by decide +kernel
theorem ze_Q_operand_61 : decode zb_Q_operand 61 = .ok (.lshl, 1) := by decide +kernel
theorem ze_Q_operand_62 : decode zb_Q_operand 62 = .ok (.lor, 1) := by decide +kernel
theorem ze_Q_operand_63 : decode zb_Q_operand 63 = .ok (.lstore_n 2, 1) := by decide +kernel
theorem ze_Q_operand_64 : decode zb_Q_operand 64 = .ok (.lload 4, 2) := by decide +kernel
theorem ze_Q_operand_66 : decode zb_Q_operand 66 = .ok (.iload 7, 2) := by decide +kernel
theorem ze_Q_operand_68 : decode zb_Q_operand 68 = .ok (.bipush 64, 2) := by decide +kernel
theorem ze_Q_operand_70 : decode zb_Q_operand 70 = .ok (.iadd, 1) := by decide +kernel
theorem ze_Q_operand_71 : decode zb_Q_operand 71 = .ok (.iload 6, 2) := by decide +kernel
theorem ze_Q_operand_73 : decode zb_Q_operand 73 = .ok (.ishr, 1) := by decide +kernel
theorem ze_Q_operand_74 : decode zb_Q_operand 74 = .ok (.iconst 1, 1) := by decide +kernel
theorem ze_Q_operand_75 : decode zb_Q_operand 75 = .ok (.iand, 1) := by decide +kernel
theorem ze_Q_operand_76 : decode zb_Q_operand 76 = .ok (.i2l, 1) := by decide +kernel
theorem ze_Q_operand_77 : decode zb_Q_operand 77 = .ok (.iload 7, 2) := by decide +kernel
theorem ze_Q_operand_79 : decode zb_Q_operand 79 = .ok (.lshl, 1) := by decide +kernel
theorem ze_Q_operand_80 : decode zb_Q_operand 80 = .ok (.lor, 1) := by decide +kernel
theorem ze_Q_operand_81 : decode zb_Q_operand 81 = .ok (.lstore 4, 2) := by decide +kernel
theorem ze_Q_operand_83 : decode zb_Q_operand 83 = .ok (.iinc 7 1, 3) := by decide +kernel
theorem ze_Q_operand_86 : decode zb_Q_operand 86 = .ok (.goto (-48), 3) := by decide +kernel
theorem ze_Q_operand_89 : decode zb_Q_operand 89 = .ok (.aload_n 0, 1) := by decide +kernel
theorem ze_Q_operand_90 : decode zb_Q_operand 90 = .ok (.lload_n 2, 1) := by decide +kernel
theorem ze_Q_operand_91 : decode zb_Q_operand 91 = .ok (.lload 4, 2) := by decide +kernel
theorem ze_Q_operand_93 : decode zb_Q_operand 93 = .ok (.invokevirtual 85, 3) := by decide +kernel
theorem ze_Q_operand_96 : decode zb_Q_operand 96 = .ok (.aload_n 0, 1) := by decide +kernel
theorem ze_Q_operand_97 : decode zb_Q_operand 97 = .ok (.invokevirtual 89, 3) := by decide +kernel
theorem ze_Q_operand_100 : decode zb_Q_operand 100 = .ok (.return_, 1) := by decide +kernel
theorem ze_Q_finish_0 : decode zb_Q_finish 0 = .ok (.aload_n 0, 1) := by decide +kernel
theorem ze_Q_finish_1 : decode zb_Q_finish 1 = .ok (.bipush 33, 2) := by decide +kernel
theorem ze_Q_finish_3 : decode zb_Q_finish 3 = .ok (.invokevirtual 92, 3) := by decide +kernel
theorem ze_Q_finish_6 : decode zb_Q_finish 6 = .ok (.ifCond .eq 10, 3) := by decide +kernel
theorem ze_Q_finish_9 : decode zb_Q_finish 9 = .ok (.aload_n 0, 1) := by decide +kernel
theorem ze_Q_finish_10 : decode zb_Q_finish 10 = .ok (.invokevirtual 95, 3) := by decide +kernel
theorem ze_Q_finish_13 : decode zb_Q_finish 13 = .ok (.goto (-13), 3) := by decide +kernel
theorem ze_Q_finish_16 : decode zb_Q_finish 16 = .ok (.return_, 1) := by decide +kernel
theorem ze_Q_begins_0 : decode zb_Q_begins 0 = .ok (.iload_n 1, 1) := by decide +kernel
theorem ze_Q_begins_1 : decode zb_Q_begins 1 = .ok (.bipush 33, 2) := by decide +kernel
theorem ze_Q_begins_3 : decode zb_Q_begins 3 = .ok (.if_icmp .eq 9, 3) := by decide +kernel
theorem ze_Q_begins_6 : decode zb_Q_begins 6 = .ok (.iload_n 1, 1) := by decide +kernel
theorem ze_Q_begins_7 : decode zb_Q_begins 7 = .ok (.bipush 40, 2) := by decide +kernel
theorem ze_Q_begins_9 : decode zb_Q_begins 9 = .ok (.if_icmp .ne 46, 3) := by decide +kernel
theorem ze_Q_begins_12 : decode zb_Q_begins 12 = .ok (.aload_n 0, 1) := by decide +kernel
theorem ze_Q_begins_13 : decode zb_Q_begins 13 = .ok (.getfield 74, 3) := by decide +kernel
theorem ze_Q_begins_16 : decode zb_Q_begins 16 = .ok (.bipush 12, 2) := by decide +kernel
theorem ze_Q_begins_18 : decode zb_Q_begins 18 = .ok (.if_icmp .ne 5, 3) := by decide +kernel
theorem ze_Q_begins_21 : decode zb_Q_begins 21 = .ok (.iconst 0, 1) := by decide +kernel
theorem ze_Q_begins_22 : decode zb_Q_begins 22 = .ok (.ireturn, 1) := by decide +kernel
theorem ze_Q_begins_23 : decode zb_Q_begins 23 = .ok (.aload_n 0, 1) := by decide +kernel
theorem ze_Q_begins_24 : decode zb_Q_begins 24 = .ok (.getfield 29, 3) := by decide +kernel
theorem ze_Q_begins_27 : decode zb_Q_begins 27 = .ok (.aload_n 0, 1) := by decide +kernel
theorem ze_Q_begins_28 : decode zb_Q_begins 28 = .ok (.getfield 69, 3) := by decide +kernel
theorem ze_Q_begins_31 : decode zb_Q_begins 31 = .ok (.iload_n 1, 1) := by decide +kernel
theorem ze_Q_begins_32 : decode zb_Q_begins 32 = .ok (.iastore, 1) := by decide +kernel
theorem ze_Q_begins_33 : decode zb_Q_begins 33 = .ok (.aload_n 0, 1) := by decide +kernel
theorem ze_Q_begins_34 : decode zb_Q_begins 34 = .ok (.dup, 1) := by decide +kernel
theorem ze_Q_begins_35 : decode zb_Q_begins 35 = .ok (.getfield 69, 3) := by decide +kernel
theorem ze_Q_begins_38 : decode zb_Q_begins 38 = .ok (.iconst 1, 1) := by decide +kernel
theorem ze_Q_begins_39 : decode zb_Q_begins 39 = .ok (.iadd, 1) := by decide +kernel
theorem ze_Q_begins_40 : decode zb_Q_begins 40 = .ok (.putfield 69, 3) := by decide +kernel
theorem ze_Q_begins_43 : decode zb_Q_begins 43 = .ok (.aload_n 0, 1) := by decide +kernel
theorem ze_Q_begins_44 : decode zb_Q_begins 44 = .ok (.dup, 1) := by decide +kernel
theorem ze_Q_begins_45 : decode zb_Q_begins 45 = .ok (.getfield 74, 3) := by decide +kernel
theorem ze_Q_begins_48 : decode zb_Q_begins 48 = .ok (.iconst 1, 1) := by decide +kernel
theorem ze_Q_begins_49 : decode zb_Q_begins 49 = .ok (.iadd, 1) := by decide +kernel
theorem ze_Q_begins_50 : decode zb_Q_begins 50 = .ok (.putfield 74, 3) := by decide +kernel
theorem ze_Q_begins_53 : decode zb_Q_begins 53 = .ok (.iconst 1, 1) := by decide +kernel
theorem ze_Q_begins_54 : decode zb_Q_begins 54 = .ok (.ireturn, 1) := by decide +kernel
theorem ze_Q_begins_55 : decode zb_Q_begins 55 = .ok (.iload_n 1, 1) := by decide +kernel
theorem ze_Q_begins_56 : decode zb_Q_begins 56 = .ok (.invokestatic 77, 3) := by decide +kernel
theorem ze_Q_begins_59 : decode zb_Q_begins 59 = .ok (.ifCond .ne 17, 3) := by decide +kernel
theorem ze_Q_begins_62 : decode zb_Q_begins 62 = .ok (.iload_n 1, 1) := by decide +kernel
theorem ze_Q_begins_63 : decode zb_Q_begins 63 = .ok (.bipush 48, 2) := by decide +kernel
theorem ze_Q_begins_65 : decode zb_Q_begins 65 = .ok (.if_icmp .eq 11, 3) := by decide +kernel
theorem ze_Q_begins_68 : decode zb_Q_begins 68 = .ok (.iload_n 1, 1) := by decide +kernel
theorem ze_Q_begins_69 : decode zb_Q_begins 69 = .ok (.bipush 49, 2) := by decide +kernel
theorem ze_Q_begins_71 : decode zb_Q_begins 71 = .ok (.if_icmp .eq 5, 3) := by decide +kernel
theorem ze_Q_begins_74 : decode zb_Q_begins 74 = .ok (.iconst 0, 1) := by decide +kernel
theorem ze_Q_begins_75 : decode zb_Q_begins 75 = .ok (.ireturn, 1) := by decide +kernel
theorem ze_Q_begins_76 : decode zb_Q_begins 76 = .ok (.aload_n 0, 1) := by decide +kernel
theorem ze_Q_begins_77 : decode zb_Q_begins 77 = .ok (.iload_n 1, 1) := by decide +kernel
theorem ze_Q_begins_78 : decode zb_Q_begins 78 = .ok (.invokevirtual 98, 3) := by decide +kernel
theorem ze_Q_begins_81 : decode zb_Q_begins 81 = .ok (.iconst 1, 1) := by decide +kernel
theorem ze_Q_begins_82 : decode zb_Q_begins 82 = .ok (.ireturn, 1) := by decide +kernel
theorem ze_Q_goesOn_0 : decode zb_Q_goesOn 0 = .ok (.iload_n 1, 1) := by decide +kernel
theorem ze_Q_goesOn_1 : decode zb_Q_goesOn 1 = .ok (.bipush 38, 2) := by decide +kernel
theorem ze_Q_goesOn_3 : decode zb_Q_goesOn 3 = .ok (.if_icmp .eq 17, 3) := by decide +kernel
theorem ze_Q_goesOn_6 : decode zb_Q_goesOn 6 = .ok (.iload_n 1, 1) := by decide +kernel
theorem ze_Q_goesOn_7 : decode zb_Q_goesOn 7 = .ok (.bipush 124, 2) := by decide +kernel
theorem ze_Q_goesOn_9 : decode zb_Q_goesOn 9 = .ok (.if_icmp .eq 11, 3) := by decide +kernel
theorem ze_Q_goesOn_12 : decode zb_Q_goesOn 12 = .ok (.iload_n 1, 1) := by decide +kernel
theorem ze_Q_goesOn_13 : decode zb_Q_goesOn 13 = .ok (.bipush 41, 2) := by decide +kernel
theorem ze_Q_goesOn_15 : decode zb_Q_goesOn 15 = .ok (.if_icmp .eq 5, 3) := by decide +kernel
theorem ze_Q_goesOn_18 : decode zb_Q_goesOn 18 = .ok (.iconst 0, 1) := by decide +kernel
theorem ze_Q_goesOn_19 : decode zb_Q_goesOn 19 = .ok (.ireturn, 1) := by decide +kernel
theorem ze_Q_goesOn_20 : decode zb_Q_goesOn 20 = .ok (.aload_n 0, 1) := by decide +kernel
theorem ze_Q_goesOn_21 : decode zb_Q_goesOn 21 = .ok (.bipush 38, 2) := by decide +kernel
theorem ze_Q_goesOn_23 : decode zb_Q_goesOn 23 = .ok (.invokevirtual 92, 3) := by decide +kernel
theorem ze_Q_goesOn_26 : decode zb_Q_goesOn 26 = .ok (.ifCond .ne 18, 3) := by decide +kernel
theorem ze_Q_goesOn_29 : decode zb_Q_goesOn 29 = .ok (.iload_n 1, 1) := by decide +kernel
theorem ze_Q_goesOn_30 : decode zb_Q_goesOn 30 = .ok (.bipush 38, 2) := by decide +kernel
theorem ze_Q_goesOn_32 : decode zb_Q_goesOn 32 = .ok (.if_icmp .eq 19, 3) := by decide +kernel
theorem ze_Q_goesOn_35 : decode zb_Q_goesOn 35 = .ok (.aload_n 0, 1) := by decide +kernel
theorem ze_Q_goesOn_36 : decode zb_Q_goesOn 36 = .ok (.bipush 124, 2) := by decide +kernel
theorem ze_Q_goesOn_38 : decode zb_Q_goesOn 38 = .ok (.invokevirtual 92, 3) := by decide +kernel
theorem ze_Q_goesOn_41 : decode zb_Q_goesOn 41 = .ok (.ifCond .eq 10, 3) := by decide +kernel
theorem ze_Q_goesOn_44 : decode zb_Q_goesOn 44 = .ok (.aload_n 0, 1) := by decide +kernel
theorem ze_Q_goesOn_45 : decode zb_Q_goesOn 45 = .ok (.invokevirtual 95, 3) := by decide +kernel
theorem ze_Q_goesOn_48 : decode zb_Q_goesOn 48 = .ok (.goto (-28), 3) := by decide +kernel
theorem ze_Q_goesOn_51 : decode zb_Q_goesOn 51 = .ok (.iload_n 1, 1) := by decide +kernel
theorem ze_Q_goesOn_52 : decode zb_Q_goesOn 52 = .ok (.bipush 41, 2) := by decide +kernel
theorem ze_Q_goesOn_54 : decode zb_Q_goesOn 54 = .ok (.if_icmp .ne 40, 3) := by decide +kernel
theorem ze_Q_goesOn_57 : decode zb_Q_goesOn 57 = .ok (.aload_n 0, 1) := by decide +kernel
theorem ze_Q_goesOn_58 : decode zb_Q_goesOn 58 = .ok (.bipush 40, 2) := by decide +kernel
theorem ze_Q_goesOn_60 : decode zb_Q_goesOn 60 = .ok (.invokevirtual 92, 3) := by decide +kernel
theorem ze_Q_goesOn_63 : decode zb_Q_goesOn 63 = .ok (.ifCond .ne 5, 3) := by decide +kernel
theorem ze_Q_goesOn_66 : decode zb_Q_goesOn 66 = .ok (.iconst 0, 1) := by decide +kernel
theorem ze_Q_goesOn_67 : decode zb_Q_goesOn 67 = .ok (.ireturn, 1) := by decide +kernel
theorem ze_Q_goesOn_68 : decode zb_Q_goesOn 68 = .ok (.aload_n 0, 1) := by decide +kernel
theorem ze_Q_goesOn_69 : decode zb_Q_goesOn 69 = .ok (.dup, 1) := by decide +kernel
theorem ze_Q_goesOn_70 : decode zb_Q_goesOn 70 = .ok (.getfield 69, 3) := by decide +kernel
theorem ze_Q_goesOn_73 : decode zb_Q_goesOn 73 = .ok (.iconst 1, 1) := by decide +kernel
theorem ze_Q_goesOn_74 : decode zb_Q_goesOn 74 = .ok (.isub, 1) := by decide +kernel
theorem ze_Q_goesOn_75 : decode zb_Q_goesOn 75 = .ok (.putfield 69, 3) := by decide +kernel
theorem ze_Q_goesOn_78 : decode zb_Q_goesOn 78 = .ok (.aload_n 0, 1) := by decide +kernel
theorem ze_Q_goesOn_79 : decode zb_Q_goesOn 79 = .ok (.dup, 1) := by decide +kernel
theorem ze_Q_goesOn_80 : decode zb_Q_goesOn 80 = .ok (.getfield 74, 3) := by decide +kernel
theorem ze_Q_goesOn_83 : decode zb_Q_goesOn 83 = .ok (.iconst 1, 1) := by decide +kernel
theorem ze_Q_goesOn_84 : decode zb_Q_goesOn 84 = .ok (.isub, 1) := by decide +kernel
theorem ze_Q_goesOn_85 : decode zb_Q_goesOn 85 = .ok (.putfield 74, 3) := by decide +kernel
theorem ze_Q_goesOn_88 : decode zb_Q_goesOn 88 = .ok (.aload_n 0, 1) := by decide +kernel
theorem ze_Q_goesOn_89 : decode zb_Q_goesOn 89 = .ok (.invokevirtual 89, 3) := by decide +kernel
theorem ze_Q_goesOn_92 : decode zb_Q_goesOn 92 = .ok (.iconst 1, 1) := by decide +kernel
theorem ze_Q_goesOn_93 : decode zb_Q_goesOn 93 = .ok (.ireturn, 1) := by decide +kernel
theorem ze_Q_goesOn_94 : decode zb_Q_goesOn 94 = .ok (.aload_n 0, 1) := by decide +kernel
theorem ze_Q_goesOn_95 : decode zb_Q_goesOn 95 = .ok (.getfield 29, 3) := by decide +kernel
theorem ze_Q_goesOn_98 : decode zb_Q_goesOn 98 = .ok (.aload_n 0, 1) := by decide +kernel
theorem ze_Q_goesOn_99 : decode zb_Q_goesOn 99 = .ok (.getfield 69, 3) := by decide +kernel
theorem ze_Q_goesOn_102 : decode zb_Q_goesOn 102 = .ok (.iload_n 1, 1) := by decide +kernel
theorem ze_Q_goesOn_103 : decode zb_Q_goesOn 103 = .ok (.iastore, 1) := by decide +kernel
theorem ze_Q_goesOn_104 : decode zb_Q_goesOn 104 = .ok (.aload_n 0, 1) := by decide +kernel
theorem ze_Q_goesOn_105 : decode zb_Q_goesOn 105 = .ok (.dup, 1) := by decide +kernel
theorem ze_Q_goesOn_106 : decode zb_Q_goesOn 106 = .ok (.getfield 69, 3) := by decide +kernel
theorem ze_Q_goesOn_109 : decode zb_Q_goesOn 109 = .ok (.iconst 1, 1) := by decide +kernel
theorem ze_Q_goesOn_110 : decode zb_Q_goesOn 110 = .ok (.iadd, 1) := by decide +kernel
theorem ze_Q_goesOn_111 : decode zb_Q_goesOn 111 = .ok (.putfield 69, 3) := by decide +kernel
theorem ze_Q_goesOn_114 : decode zb_Q_goesOn 114 = .ok (.iconst 1, 1) := by decide +kernel
theorem ze_Q_goesOn_115 : decode zb_Q_goesOn 115 = .ok (.ireturn, 1) := by decide +kernel
theorem ze_Q_ends_0 : decode zb_Q_ends 0 = .ok (.aload_n 0, 1) := by decide +kernel
theorem ze_Q_ends_1 : decode zb_Q_ends 1 = .ok (.bipush 38, 2) := by decide +kernel
theorem ze_Q_ends_3 : decode zb_Q_ends 3 = .ok (.invokevirtual 92, 3) := by decide +kernel
theorem ze_Q_ends_6 : decode zb_Q_ends 6 = .ok (.ifCond .ne 12, 3) := by decide +kernel
theorem ze_Q_ends_9 : decode zb_Q_ends 9 = .ok (.aload_n 0, 1) := by decide +kernel
theorem ze_Q_ends_10 : decode zb_Q_ends 10 = .ok (.bipush 124, 2) := by decide +kernel
theorem ze_Q_ends_12 : decode zb_Q_ends 12 = .ok (.invokevirtual 92, 3) := by decide +kernel
theorem ze_Q_ends_15 : decode zb_Q_ends 15 = .ok (.ifCond .eq 10, 3) := by decide +kernel
theorem ze_Q_ends_18 : decode zb_Q_ends 18 = .ok (.aload_n 0, 1) := by decide +kernel
theorem ze_Q_ends_19 : decode zb_Q_ends 19 = .ok (.invokevirtual 95, 3) := by decide +kernel
theorem ze_Q_ends_22 : decode zb_Q_ends 22 = .ok (.goto (-22), 3) := by decide +kernel
theorem ze_Q_ends_25 : decode zb_Q_ends 25 = .ok (.aload_n 0, 1) := by decide +kernel
theorem ze_Q_ends_26 : decode zb_Q_ends 26 = .ok (.getfield 69, 3) := by decide +kernel
theorem ze_Q_ends_29 : decode zb_Q_ends 29 = .ok (.ifCond .le 5, 3) := by decide +kernel
theorem ze_Q_ends_32 : decode zb_Q_ends 32 = .ok (.iconst 0, 1) := by decide +kernel
theorem ze_Q_ends_33 : decode zb_Q_ends 33 = .ok (.ireturn, 1) := by decide +kernel
theorem ze_Q_ends_34 : decode zb_Q_ends 34 = .ok (.aload_n 0, 1) := by decide +kernel
theorem ze_Q_ends_35 : decode zb_Q_ends 35 = .ok (.iconst 0, 1) := by decide +kernel
theorem ze_Q_ends_36 : decode zb_Q_ends 36 = .ok (.putfield 66, 3) := by decide +kernel
theorem ze_Q_ends_39 : decode zb_Q_ends 39 = .ok (.iload_n 1, 1) := by decide +kernel
theorem ze_Q_ends_40 : decode zb_Q_ends 40 = .ok (.ifCond .eq 33, 3) := by decide +kernel
theorem ze_Q_ends_43 : decode zb_Q_ends 43 = .ok (.aload_n 0, 1) := by decide +kernel
theorem ze_Q_ends_44 : decode zb_Q_ends 44 = .ok (.getfield 16, 3) := by decide +kernel
theorem ze_Q_ends_47 : decode zb_Q_ends 47 = .ok (.aload_n 0, 1) := by decide +kernel
theorem ze_Q_ends_48 : decode zb_Q_ends 48 = .ok (.getfield 102, 3) := by decide +kernel
theorem ze_Q_ends_51 : decode zb_Q_ends 51 = .ok (.aload_n 0, 1) := by decide +kernel
theorem ze_Q_ends_52 : decode zb_Q_ends 52 = .ok (.getfield 32, 3) := by decide +kernel
theorem ze_Q_ends_55 : decode zb_Q_ends 55 = .ok (.iconst 0, 1) := by decide +kernel
theorem ze_Q_ends_56 : decode zb_Q_ends 56 = .ok (.laload, 1) := by decide +kernel
theorem ze_Q_ends_57 : decode zb_Q_ends 57 = .ok (.lastore, 1) := by decide +kernel
theorem ze_Q_ends_58 : decode zb_Q_ends 58 = .ok (.aload_n 0, 1) := by decide +kernel
theorem ze_Q_ends_59 : decode zb_Q_ends 59 = .ok (.getfield 20, 3) := by decide +kernel
theorem ze_Q_ends_62 : decode zb_Q_ends 62 = .ok (.aload_n 0, 1) := by decide +kernel
theorem ze_Q_ends_63 : decode zb_Q_ends 63 = .ok (.getfield 102, 3) := by decide +kernel
theorem ze_Q_ends_66 : decode zb_Q_ends 66 = .ok (.aload_n 0, 1) := by decide +kernel
theorem ze_Q_ends_67 : decode zb_Q_ends 67 = .ok (.getfield 35, 3) := by decide +kernel
theorem ze_Q_ends_70 : decode zb_Q_ends 70 = .ok (.iconst 0, 1) := by decide +kernel
theorem ze_Q_ends_71 : decode zb_Q_ends 71 = .ok (.laload, 1) := by decide +kernel
theorem ze_Q_ends_72 : decode zb_Q_ends 72 = .ok (.lastore, 1) := by decide +kernel
theorem ze_Q_ends_73 : decode zb_Q_ends 73 = .ok (.aload_n 0, 1) := by decide +kernel
theorem ze_Q_ends_74 : decode zb_Q_ends 74 = .ok (.dup, 1) := by decide +kernel
theorem ze_Q_ends_75 : decode zb_Q_ends 75 = .ok (.getfield 102, 3) := by decide +kernel
theorem ze_Q_ends_78 : decode zb_Q_ends 78 = .ok (.iconst 1, 1) := by decide +kernel
theorem ze_Q_ends_79 : decode zb_Q_ends 79 = .ok (.iadd, 1) := by decide +kernel
theorem ze_Q_ends_80 : decode zb_Q_ends 80 = .ok (.putfield 102, 3) := by decide +kernel
theorem ze_Q_ends_83 : decode zb_Q_ends 83 = .ok (.iconst 1, 1) := by decide +kernel
theorem ze_Q_ends_84 : decode zb_Q_ends 84 = .ok (.ireturn, 1) := by decide +kernel
theorem ze_Q_scan_0 : decode zb_Q_scan 0 = .ok (.iconst 0, 1) := by decide +kernel
theorem ze_Q_scan_1 : decode zb_Q_scan 1 = .ok (.istore_n 2, 1) := by decide +kernel
theorem ze_Q_scan_2 : decode zb_Q_scan 2 = .ok (.aload_n 0, 1) := by decide +kernel
theorem ze_Q_scan_3 : decode zb_Q_scan 3 = .ok (.iconst 0, 1) := by decide +kernel
theorem ze_Q_scan_4 : decode zb_Q_scan 4 = .ok (.putfield 69, 3) := by decide +kernel
theorem ze_Q_scan_7 : decode zb_Q_scan 7 = .ok (.aload_n 0, 1) := by decide +kernel
theorem ze_Q_scan_8 : decode zb_Q_scan 8 = .ok (.iconst 0, 1) := by decide +kernel
theorem ze_Q_scan_9 : decode zb_Q_scan 9 = .ok (.putfield 66, 3) := by decide +kernel
theorem ze_Q_scan_12 : decode zb_Q_scan 12 = .ok (.aload_n 0, 1) := by decide +kernel
theorem ze_Q_scan_13 : decode zb_Q_scan 13 = .ok (.iconst 0, 1) := by decide +kernel
theorem ze_Q_scan_14 : decode zb_Q_scan 14 = .ok (.putfield 74, 3) := by decide +kernel
theorem ze_Q_scan_17 : decode zb_Q_scan 17 = .ok (.aload_n 0, 1) := by decide +kernel
theorem ze_Q_scan_18 : decode zb_Q_scan 18 = .ok (.iconst 0, 1) := by decide +kernel
theorem ze_Q_scan_19 : decode zb_Q_scan 19 = .ok (.putfield 102, 3) := by decide +kernel
theorem ze_Q_scan_22 : decode zb_Q_scan 22 = .ok (.iconst 0, 1) := by decide +kernel
theorem ze_Q_scan_23 : decode zb_Q_scan 23 = .ok (.istore_n 3, 1) := by decide +kernel
theorem ze_Q_scan_24 : decode zb_Q_scan 24 = .ok (.iload_n 3, 1) := by decide +kernel
theorem ze_Q_scan_25 : decode zb_Q_scan 25 = .ok (.aload_n 0, 1) := by decide +kernel
theorem ze_Q_scan_26 : decode zb_Q_scan 26 = .ok (.getfield 59, 3) := by decide +kernel
theorem ze_Q_scan_29 : decode zb_Q_scan 29 = .ok (.if_icmp .ge 191, 3) := by decide +kernel
theorem ze_Q_scan_32 : decode zb_Q_scan 32 = .ok (.aload_n 0, 1) := by decide +kernel
theorem ze_Q_scan_33 : decode zb_Q_scan 33 = .ok (.getfield 7, 3) := by decide +kernel
theorem ze_Q_scan_36 : decode zb_Q_scan 36 = .ok (.iload_n 3, 1) := by decide +kernel
theorem ze_Q_scan_37 : decode zb_Q_scan 37 = .ok (.iaload, 1) := by decide +kernel
theorem ze_Q_scan_38 : decode zb_Q_scan 38 = .ok (.istore 4, 2) := by decide +kernel
theorem ze_Q_scan_40 : decode zb_Q_scan 40 = .ok (.iload 4, 2) := by decide +kernel
theorem ze_Q_scan_42 : decode zb_Q_scan 42 = .ok (.bipush 32, 2) := by decide +kernel
theorem ze_Q_scan_44 : decode zb_Q_scan 44 = .ok (.if_icmp .eq 170, 3) := by decide +kernel
theorem ze_Q_scan_47 : decode zb_Q_scan 47 = .ok (.iload_n 2, 1) := by decide +kernel
theorem ze_Q_scan_48 : decode zb_Q_scan 48 = .ok (.ifCond .ne 32, 3) := by decide +kernel
theorem ze_Q_scan_51 : decode zb_Q_scan 51 = .ok (.iload 4, 2) := by decide +kernel
theorem ze_Q_scan_53 : decode zb_Q_scan 53 = .ok (.invokestatic 77, 3) := by decide +kernel
theorem ze_Q_scan_56 : decode zb_Q_scan 56 = .ok (.ifCond .eq 20, 3) := by decide +kernel
theorem ze_Q_scan_59 : decode zb_Q_scan 59 = .ok (.iload_n 1, 1) := by decide +kernel
theorem ze_Q_scan_60 : decode zb_Q_scan 60 = .ok (.ifCond .ne 12, 3) := by decide +kernel
theorem ze_Q_scan_63 : decode zb_Q_scan 63 = .ok (.aload_n 0, 1) := by decide +kernel
theorem ze_Q_scan_64 : decode zb_Q_scan 64 = .ok (.iload 4, 2) := by decide +kernel
theorem ze_Q_scan_66 : decode zb_Q_scan 66 = .ok (.invokevirtual 105, 3) := by decide +kernel
theorem ze_Q_scan_69 : decode zb_Q_scan 69 = .ok (.ifCond .eq 7, 3) := by decide +kernel
theorem ze_Q_scan_72 : decode zb_Q_scan 72 = .ok (.iconst 1, 1) := by decide +kernel
theorem ze_Q_scan_73 : decode zb_Q_scan 73 = .ok (.goto 62, 3) := by decide +kernel
theorem ze_Q_scan_76 : decode zb_Q_scan 76 = .ok (.iconst 0, 1) := by decide +kernel
theorem ze_Q_scan_77 : decode zb_Q_scan 77 = .ok (.goto 58, 3) := by decide +kernel
theorem ze_Q_scan_80 : decode zb_Q_scan 80 = .ok (.iload_n 2, 1) := by decide +kernel
theorem ze_Q_scan_81 : decode zb_Q_scan 81 = .ok (.iconst 1, 1) := by decide +kernel
theorem ze_Q_scan_82 : decode zb_Q_scan 82 = .ok (.if_icmp .ne 18, 3) := by decide +kernel
theorem ze_Q_scan_85 : decode zb_Q_scan 85 = .ok (.iload 4, 2) := by decide +kernel
theorem ze_Q_scan_87 : decode zb_Q_scan 87 = .ok (.bipush 44, 2) := by decide +kernel
theorem ze_Q_scan_89 : decode zb_Q_scan 89 = .ok (.if_icmp .ne 7, 3) := by decide +kernel
theorem ze_Q_scan_92 : decode zb_Q_scan 92 = .ok (.iconst 1, 1) := by decide +kernel
theorem ze_Q_scan_93 : decode zb_Q_scan 93 = .ok (.goto 42, 3) := by decide +kernel
theorem ze_Q_scan_96 : decode zb_Q_scan 96 = .ok (.iconst 0, 1) := by decide +kernel
theorem ze_Q_scan_97 : decode zb_Q_scan 97 = .ok (.goto 38, 3) := by decide +kernel
theorem ze_Q_scan_100 : decode zb_Q_scan 100 = .ok (.iload_n 2, 1) := by decide +kernel
theorem ze_Q_scan_101 : decode zb_Q_scan 101 = .ok (.iconst 2, 1) := by decide +kernel
theorem ze_Q_scan_102 : decode zb_Q_scan 102 = .ok (.if_icmp .ne 12, 3) := by decide +kernel
theorem ze_Q_scan_105 : decode zb_Q_scan 105 = .ok (.aload_n 0, 1) := by decide +kernel
theorem ze_Q_scan_106 : decode zb_Q_scan 106 = .ok (.iload 4, 2) := by decide +kernel
theorem ze_Q_scan_108 : decode zb_Q_scan 108 = .ok (.invokevirtual 108, 3) := by decide +kernel
theorem ze_Q_scan_111 : decode zb_Q_scan 111 = .ok (.goto 24, 3) := by decide +kernel
theorem ze_Q_scan_114 : decode zb_Q_scan 114 = .ok (.iload 4, 2) := by decide +kernel
theorem ze_Q_scan_116 : decode zb_Q_scan 116 = .ok (.bipush 59, 2) := by decide +kernel
theorem ze_Q_scan_118 : decode zb_Q_scan 118 = .ok (.if_icmp .ne 11, 3) := by decide +kernel
theorem ze_Q_scan_121 : decode zb_Q_scan 121 = .ok (.aload_n 0, 1) := by decide +kernel
theorem ze_Q_scan_122 : decode zb_Q_scan 122 = .ok (.iload_n 1, 1) := by decide +kernel
theorem ze_Q_scan_123 : decode zb_Q_scan 123 = .ok (.invokevirtual 111, 3) := by decide +kernel
theorem ze_Q_scan_126 : decode zb_Q_scan 126 = .ok (.goto 9, 3) := by decide +kernel
theorem ze_Q_scan_129 : decode zb_Q_scan 129 = .ok (.aload_n 0, 1) := by decide +kernel
theorem ze_Q_scan_130 : decode zb_Q_scan 130 = .ok (.iload 4, 2) := by decide +kernel
theorem ze_Q_scan_132 : decode zb_Q_scan 132 = .ok (.invokevirtual 115, 3) := by decide +kernel
theorem ze_Q_scan_135 : decode zb_Q_scan 135 = .ok (.istore 5, 2) := by decide +kernel
theorem ze_Q_scan_137 : decode zb_Q_scan 137 = .ok (.iload 5, 2) := by decide +kernel
theorem ze_Q_scan_139 : decode zb_Q_scan 139 = .ok (.ifCond .ne 7, 3) := by decide +kernel
theorem ze_Q_scan_142 : decode zb_Q_scan 142 = .ok (.iload_n 3, 1) := by decide +kernel
theorem ze_Q_scan_143 : decode zb_Q_scan 143 = .ok (.iconst 1, 1) := by decide +kernel
theorem ze_Q_scan_144 : decode zb_Q_scan 144 = .ok (.iadd, 1) := by decide +kernel
theorem ze_Q_scan_145 : decode zb_Q_scan 145 = .ok (.ireturn, 1) := by decide +kernel
theorem ze_Q_scan_146 : decode zb_Q_scan 146 = .ok (.iload_n 2, 1) := by decide +kernel
theorem ze_Q_scan_147 : decode zb_Q_scan 147 = .ok (.ifCond .ne 7, 3) := by decide +kernel
theorem ze_Q_scan_150 : decode zb_Q_scan 150 = .ok (.iconst 1, 1) := by decide +kernel
theorem ze_Q_scan_151 : decode zb_Q_scan 151 = .ok (.goto 62, 3) := by decide +kernel
theorem ze_Q_scan_154 : decode zb_Q_scan 154 = .ok (.iload_n 2, 1) := by decide +kernel
theorem ze_Q_scan_155 : decode zb_Q_scan 155 = .ok (.iconst 1, 1) := by decide +kernel
theorem ze_Q_scan_156 : decode zb_Q_scan 156 = .ok (.if_icmp .ne 7, 3) := by decide +kernel
theorem ze_Q_scan_159 : decode zb_Q_scan 159 = .ok (.iconst 2, 1) := by decide +kernel
theorem ze_Q_scan_160 : decode zb_Q_scan 160 = .ok (.goto 53, 3) := by decide +kernel
theorem ze_Q_scan_163 : decode zb_Q_scan 163 = .ok (.iload_n 2, 1) := by decide +kernel
theorem ze_Q_scan_164 : decode zb_Q_scan 164 = .ok (.iconst 2, 1) := by decide +kernel
theorem ze_Q_scan_165 : decode zb_Q_scan 165 = .ok (.if_icmp .ne 25, 3) := by decide +kernel
theorem ze_Q_scan_168 : decode zb_Q_scan 168 = .ok (.iload 4, 2) := by decide +kernel
theorem ze_Q_scan_170 : decode zb_Q_scan 170 = .ok (.bipush 33, 2) := by decide +kernel
theorem ze_Q_scan_172 : decode zb_Q_scan 172 = .ok (.if_icmp .eq 10, 3) := by decide +kernel
theorem ze_Q_scan_175 : decode zb_Q_scan 175 = .ok (.iload 4, 2) := by decide +kernel
theorem ze_Q_scan_177 : decode zb_Q_scan 177 = .ok (.bipush 40, 2) := by decide +kernel
theorem ze_Q_scan_179 : decode zb_Q_scan 179 = .ok (.if_icmp .ne 7, 3) := by decide +kernel
theorem ze_Q_scan_182 : decode zb_Q_scan 182 = .ok (.iconst 2, 1) := by decide +kernel
theorem ze_Q_scan_183 : decode zb_Q_scan 183 = .ok (.goto 30, 3) := by decide +kernel
theorem ze_Q_scan_186 : decode zb_Q_scan 186 = .ok (.iconst 3, 1) := by decide +kernel
theorem ze_Q_scan_187 : decode zb_Q_scan 187 = .ok (.goto 26, 3) := by decide +kernel
theorem ze_Q_scan_190 : decode zb_Q_scan 190 = .ok (.iload 4, 2) := by decide +kernel
theorem ze_Q_scan_192 : decode zb_Q_scan 192 = .ok (.bipush 59, 2) := by decide +kernel
theorem ze_Q_scan_194 : decode zb_Q_scan 194 = .ok (.if_icmp .ne 7, 3) := by decide +kernel
theorem ze_Q_scan_197 : decode zb_Q_scan 197 = .ok (.iconst 0, 1) := by decide +kernel
theorem ze_Q_scan_198 : decode zb_Q_scan 198 = .ok (.goto 15, 3) := by decide +kernel
theorem ze_Q_scan_201 : decode zb_Q_scan 201 = .ok (.iload 4, 2) := by decide +kernel
theorem ze_Q_scan_203 : decode zb_Q_scan 203 = .ok (.bipush 41, 2) := by decide +kernel
theorem ze_Q_scan_205 : decode zb_Q_scan 205 = .ok (.if_icmp .ne 7, 3) := by decide +kernel
theorem ze_Q_scan_208 : decode zb_Q_scan 208 = .ok (.iconst 3, 1) := by decide +kernel
theorem ze_Q_scan_209 : decode zb_Q_scan 209 = .ok (.goto 4, 3) := by decide +kernel
theorem ze_Q_scan_212 : decode zb_Q_scan 212 = .ok (.iconst 2, 1) := by decide +kernel
theorem ze_Q_scan_213 : decode zb_Q_scan 213 = .ok (.istore_n 2, 1) := by decide +kernel
theorem ze_Q_scan_214 : decode zb_Q_scan 214 = .ok (.iinc 3 1, 3) := by decide +kernel
theorem ze_Q_scan_217 : decode zb_Q_scan 217 = .ok (.goto (-193), 3) := by decide +kernel
theorem ze_Q_scan_220 : decode zb_Q_scan 220 = .ok (.iload_n 2, 1) := by decide +kernel
theorem ze_Q_scan_221 : decode zb_Q_scan 221 = .ok (.iconst 3, 1) := by decide +kernel
theorem ze_Q_scan_222 : decode zb_Q_scan 222 = .ok (.if_icmp .ne 15, 3) := by decide +kernel
theorem ze_Q_scan_225 : decode zb_Q_scan 225 = .ok (.aload_n 0, 1) := by decide +kernel
theorem ze_Q_scan_226 : decode zb_Q_scan 226 = .ok (.iload_n 1, 1) := by decide +kernel
theorem ze_Q_scan_227 : decode zb_Q_scan 227 = .ok (.invokevirtual 111, 3) := by decide +kernel
theorem ze_Q_scan_230 : decode zb_Q_scan 230 = .ok (.ifCond .eq 7, 3) := by decide +kernel
theorem ze_Q_scan_233 : decode zb_Q_scan 233 = .ok (.iconst 0, 1) := by decide +kernel
theorem ze_Q_scan_234 : decode zb_Q_scan 234 = .ok (.goto 9, 3) := by decide +kernel
theorem ze_Q_scan_237 : decode zb_Q_scan 237 = .ok (.aload_n 0, 1) := by decide +kernel
theorem ze_Q_scan_238 : decode zb_Q_scan 238 = .ok (.getfield 59, 3) := by decide +kernel
theorem ze_Q_scan_241 : decode zb_Q_scan 241 = .ok (.iconst 1, 1) := by decide +kernel
theorem ze_Q_scan_242 : decode zb_Q_scan 242 = .ok (.iadd, 1) := by decide +kernel
theorem ze_Q_scan_243 : decode zb_Q_scan 243 = .ok (.ireturn, 1) := by decide +kernel
theorem ze_Q_isNew_0 : decode zb_Q_isNew 0 = .ok (.aload_n 0, 1) := by decide +kernel
theorem ze_Q_isNew_1 : decode zb_Q_isNew 1 = .ok (.iload_n 1, 1) := by decide +kernel
theorem ze_Q_isNew_2 : decode zb_Q_isNew 2 = .ok (.invokevirtual 81, 3) := by decide +kernel
theorem ze_Q_isNew_5 : decode zb_Q_isNew 5 = .ok (.iconst (-1), 1) := by decide +kernel
theorem ze_Q_isNew_6 : decode zb_Q_isNew 6 = .ok (.if_icmp .ne 12, 3) := by decide +kernel
theorem ze_Q_isNew_9 : decode zb_Q_isNew 9 = .ok (.aload_n 0, 1) := by decide +kernel
theorem ze_Q_isNew_10 : decode zb_Q_isNew 10 = .ok (.getfield 63, 3) := by decide +kernel
theorem ze_Q_isNew_13 : decode zb_Q_isNew 13 = .ok (.bipush 7, 2) := by decide +kernel
theorem ze_Q_isNew_15 : decode zb_Q_isNew 15 = .ok (.if_icmp .ne 5, 3) := by decide +kernel
theorem ze_Q_isNew_18 : decode zb_Q_isNew 18 = .ok (.iconst 0, 1) := by decide +kernel
theorem ze_Q_isNew_19 : decode zb_Q_isNew 19 = .ok (.ireturn, 1) := by decide +kernel
theorem ze_Q_isNew_20 : decode zb_Q_isNew 20 = .ok (.aload_n 0, 1) := by decide +kernel
theorem ze_Q_isNew_21 : decode zb_Q_isNew 21 = .ok (.getfield 26, 3) := by decide +kernel
theorem ze_Q_isNew_24 : decode zb_Q_isNew 24 = .ok (.aload_n 0, 1) := by decide +kernel
theorem ze_Q_isNew_25 : decode zb_Q_isNew 25 = .ok (.getfield 63, 3) := by decide +kernel
theorem ze_Q_isNew_28 : decode zb_Q_isNew 28 = .ok (.iload_n 1, 1) := by decide +kernel
theorem ze_Q_isNew_29 : decode zb_Q_isNew 29 = .ok (.iastore, 1) := by decide +kernel
theorem ze_Q_isNew_30 : decode zb_Q_isNew 30 = .ok (.aload_n 0, 1) := by decide +kernel
theorem ze_Q_isNew_31 : decode zb_Q_isNew 31 = .ok (.dup, 1) := by decide +kernel
theorem ze_Q_isNew_32 : decode zb_Q_isNew 32 = .ok (.getfield 63, 3) := by decide +kernel
theorem ze_Q_isNew_35 : decode zb_Q_isNew 35 = .ok (.iconst 1, 1) := by decide +kernel
theorem ze_Q_isNew_36 : decode zb_Q_isNew 36 = .ok (.iadd, 1) := by decide +kernel
theorem ze_Q_isNew_37 : decode zb_Q_isNew 37 = .ok (.putfield 63, 3) := by decide +kernel
theorem ze_Q_isNew_40 : decode zb_Q_isNew 40 = .ok (.iconst 1, 1) := by decide +kernel
theorem ze_Q_isNew_41 : decode zb_Q_isNew 41 = .ok (.ireturn, 1) := by decide +kernel
theorem ze_Q_load_0 : decode zb_Q_load 0 = .ok (.aload_n 0, 1) := by decide +kernel
theorem ze_Q_load_1 : decode zb_Q_load 1 = .ok (.iconst 0, 1) := by decide +kernel
theorem ze_Q_load_2 : decode zb_Q_load 2 = .ok (.putfield 63, 3) := by decide +kernel
theorem ze_Q_load_5 : decode zb_Q_load 5 = .ok (.aload_n 0, 1) := by decide +kernel
theorem ze_Q_load_6 : decode zb_Q_load 6 = .ok (.iconst 0, 1) := by decide +kernel
theorem ze_Q_load_7 : decode zb_Q_load 7 = .ok (.invokevirtual 118, 3) := by decide +kernel
theorem ze_Q_load_10 : decode zb_Q_load 10 = .ok (.istore_n 1, 1) := by decide +kernel
theorem ze_Q_load_11 : decode zb_Q_load 11 = .ok (.iload_n 1, 1) := by decide +kernel
theorem ze_Q_load_12 : decode zb_Q_load 12 = .ok (.ifCond .ne 8, 3) := by decide +kernel
theorem ze_Q_load_15 : decode zb_Q_load 15 = .ok (.aload_n 0, 1) := by decide +kernel
theorem ze_Q_load_16 : decode zb_Q_load 16 = .ok (.invokevirtual 122, 3) := by decide +kernel
theorem ze_Q_load_19 : decode zb_Q_load 19 = .ok (.istore_n 1, 1) := by decide +kernel
theorem ze_Q_load_20 : decode zb_Q_load 20 = .ok (.iload_n 1, 1) := by decide +kernel
theorem ze_Q_load_21 : decode zb_Q_load 21 = .ok (.ifCond .le 6, 3) := by decide +kernel
theorem ze_Q_load_24 : decode zb_Q_load 24 = .ok (.iload_n 1, 1) := by decide +kernel
theorem ze_Q_load_25 : decode zb_Q_load 25 = .ok (.ineg, 1) := by decide +kernel
theorem ze_Q_load_26 : decode zb_Q_load 26 = .ok (.ireturn, 1) := by decide +kernel
theorem ze_Q_load_27 : decode zb_Q_load 27 = .ok (.aload_n 0, 1) := by decide +kernel
theorem ze_Q_load_28 : decode zb_Q_load 28 = .ok (.aload_n 0, 1) := by decide +kernel
theorem ze_Q_load_29 : decode zb_Q_load 29 = .ok (.getfield 63, 3) := by decide +kernel
theorem ze_Q_load_32 : decode zb_Q_load 32 = .ok (.putfield 126, 3) := by decide +kernel
theorem ze_Q_load_35 : decode zb_Q_load 35 = .ok (.iconst 0, 1) := by decide +kernel
theorem ze_Q_load_36 : decode zb_Q_load 36 = .ok (.istore_n 2, 1) := by decide +kernel
theorem ze_Q_load_37 : decode zb_Q_load 37 = .ok (.iload_n 2, 1) := by decide +kernel
theorem ze_Q_load_38 : decode zb_Q_load 38 = .ok (.aload_n 0, 1) := by decide +kernel
theorem ze_Q_load_39 : decode zb_Q_load 39 = .ok (.getfield 126, 3) := by decide +kernel
theorem ze_Q_load_42 : decode zb_Q_load 42 = .ok (.if_icmp .ge 28, 3) := by decide +kernel
theorem ze_Q_load_45 : decode zb_Q_load 45 = .ok (.aload_n 0, 1) := by decide +kernel
theorem ze_Q_load_46 : decode zb_Q_load 46 = .ok (.getfield 13, 3) := by decide +kernel
theorem ze_Q_load_49 : decode zb_Q_load 49 = .ok (.iload_n 2, 1) := by decide +kernel
theorem ze_Q_load_50 : decode zb_Q_load 50 = .ok (.aload_n 0, 1) := by decide +kernel
theorem ze_Q_load_51 : decode zb_Q_load 51 = .ok (.getfield 26, 3) := by decide +kernel
theorem ze_Q_load_54 : decode zb_Q_load 54 = .ok (.iload_n 2, 1) := by decide +kernel
theorem ze_Q_load_55 : decode zb_Q_load 55 = .ok (.iaload, 1) := by decide +kernel
theorem ze_Q_load_56 : decode zb_Q_load 56 = .ok (.iastore, 1) := by decide +kernel
theorem ze_Q_load_57 : decode zb_Q_load 57 = .ok (.aload_n 0, 1) := by decide +kernel
theorem ze_Q_load_58 : decode zb_Q_load 58 = .ok (.getfield 23, 3) := by decide +kernel
theorem ze_Q_load_61 : decode zb_Q_load 61 = .ok (.iload_n 2, 1) := by decide +kernel
theorem ze_Q_load_62 : decode zb_Q_load 62 = .ok (.iconst 2, 1) := by decide +kernel
theorem ze_Q_load_63 : decode zb_Q_load 63 = .ok (.iastore, 1) := by decide +kernel
theorem ze_Q_load_64 : decode zb_Q_load 64 = .ok (.iinc 2 1, 3) := by decide +kernel
theorem ze_Q_load_67 : decode zb_Q_load 67 = .ok (.goto (-30), 3) := by decide +kernel
theorem ze_Q_load_70 : decode zb_Q_load 70 = .ok (.aload_n 0, 1) := by decide +kernel
theorem ze_Q_load_71 : decode zb_Q_load 71 = .ok (.iconst 1, 1) := by decide +kernel
theorem ze_Q_load_72 : decode zb_Q_load 72 = .ok (.invokevirtual 118, 3) := by decide +kernel
theorem ze_Q_load_75 : decode zb_Q_load 75 = .ok (.istore_n 2, 1) := by decide +kernel
theorem ze_Q_load_76 : decode zb_Q_load 76 = .ok (.aload_n 0, 1) := by decide +kernel
theorem ze_Q_load_77 : decode zb_Q_load 77 = .ok (.iconst 0, 1) := by decide +kernel
theorem ze_Q_load_78 : decode zb_Q_load 78 = .ok (.putfield 129, 3) := by decide +kernel
theorem ze_Q_load_81 : decode zb_Q_load 81 = .ok (.aload_n 0, 1) := by decide +kernel
theorem ze_Q_load_82 : decode zb_Q_load 82 = .ok (.getfield 126, 3) := by decide +kernel
theorem ze_Q_load_85 : decode zb_Q_load 85 = .ok (.ireturn, 1) := by decide +kernel
theorem ze_Q_unknown_0 : decode zb_Q_unknown 0 = .ok (.iconst 0, 1) := by decide +kernel
theorem ze_Q_unknown_1 : decode zb_Q_unknown 1 = .ok (.istore_n 1, 1) := by decide +kernel
theorem ze_Q_unknown_2 : decode zb_Q_unknown 2 = .ok (.iconst 0, 1) := by decide +kernel
theorem ze_Q_unknown_3 : decode zb_Q_unknown 3 = .ok (.istore_n 2, 1) := by decide +kernel
theorem ze_Q_unknown_4 : decode zb_Q_unknown 4 = .ok (.iload_n 2, 1) := by decide +kernel
theorem ze_Q_unknown_5 : decode zb_Q_unknown 5 = .ok (.aload_n 0, 1) := by decide +kernel
theorem ze_Q_unknown_6 : decode zb_Q_unknown 6 = .ok (.getfield 59, 3) := by decide +kernel
theorem ze_Q_unknown_9 : decode zb_Q_unknown 9 = .ok (.if_icmp .ge 75, 3) := by decide +kernel
theorem ze_Q_unknown_12 : decode zb_Q_unknown 12 = .ok (.iload_n 1, 1) := by decide +kernel
theorem ze_Q_unknown_13 : decode zb_Q_unknown 13 = .ok (.ifCond .eq 33, 3) := by decide +kernel
theorem ze_Q_unknown_16 : decode zb_Q_unknown 16 = .ok (.aload_n 0, 1) := by decide +kernel
theorem ze_Q_unknown_17 : decode zb_Q_unknown 17 = .ok (.getfield 7, 3) := by decide +kernel
theorem ze_Q_unknown_20 : decode zb_Q_unknown 20 = .ok (.iload_n 2, 1) := by decide +kernel
theorem ze_Q_unknown_21 : decode zb_Q_unknown 21 = .ok (.iaload, 1) := by decide +kernel
theorem ze_Q_unknown_22 : decode zb_Q_unknown 22 = .ok (.invokestatic 77, 3) := by decide +kernel
theorem ze_Q_unknown_25 : decode zb_Q_unknown 25 = .ok (.ifCond .eq 21, 3) := by decide +kernel
theorem ze_Q_unknown_28 : decode zb_Q_unknown 28 = .ok (.aload_n 0, 1) := by decide +kernel
theorem ze_Q_unknown_29 : decode zb_Q_unknown 29 = .ok (.aload_n 0, 1) := by decide +kernel
theorem ze_Q_unknown_30 : decode zb_Q_unknown 30 = .ok (.getfield 7, 3) := by decide +kernel
theorem ze_Q_unknown_33 : decode zb_Q_unknown 33 = .ok (.iload_n 2, 1) := by decide +kernel
theorem ze_Q_unknown_34 : decode zb_Q_unknown 34 = .ok (.iaload, 1) := by decide +kernel
theorem ze_Q_unknown_35 : decode zb_Q_unknown 35 = .ok (.invokevirtual 81, 3) := by decide +kernel
theorem ze_Q_unknown_38 : decode zb_Q_unknown 38 = .ok (.iconst (-1), 1) := by decide +kernel
theorem ze_Q_unknown_39 : decode zb_Q_unknown 39 = .ok (.if_icmp .ne 7, 3) := by decide +kernel
theorem ze_Q_unknown_42 : decode zb_Q_unknown 42 = .ok (.iload_n 2, 1) := by decide +kernel
theorem ze_Q_unknown_43 : decode zb_Q_unknown 43 = .ok (.iconst 1, 1) := by decide +kernel
theorem ze_Q_unknown_44 : decode zb_Q_unknown 44 = .ok (.iadd, 1) := by decide +kernel
theorem ze_Q_unknown_45 : decode zb_Q_unknown 45 = .ok (.ireturn, 1) := by decide +kernel
theorem ze_Q_unknown_46 : decode zb_Q_unknown 46 = .ok (.aload_n 0, 1) := by decide +kernel
theorem ze_Q_unknown_47 : decode zb_Q_unknown 47 = .ok (.getfield 7, 3) := by decide +kernel
theorem ze_Q_unknown_50 : decode zb_Q_unknown 50 = .ok (.iload_n 2, 1) := by decide +kernel
theorem ze_Q_unknown_51 : decode zb_Q_unknown 51 = .ok (.iaload, 1) := by decide +kernel
theorem ze_Q_unknown_52 : decode zb_Q_unknown 52 = .ok (.bipush 44, 2) := by decide +kernel
theorem ze_Q_unknown_54 : decode zb_Q_unknown 54 = .ok (.if_icmp .eq 18, 3) := by decide +kernel
theorem ze_Q_unknown_57 : decode zb_Q_unknown 57 = .ok (.iload_n 1, 1) := by decide +kernel
theorem ze_Q_unknown_58 : decode zb_Q_unknown 58 = .ok (.ifCond .eq 18, 3) := by decide +kernel
theorem ze_Q_unknown_61 : decode zb_Q_unknown 61 = .ok (.aload_n 0, 1) := by decide +kernel
theorem ze_Q_unknown_62 : decode zb_Q_unknown 62 = .ok (.getfield 7, 3) := by decide +kernel
theorem ze_Q_unknown_65 : decode zb_Q_unknown 65 = .ok (.iload_n 2, 1) := by decide +kernel
theorem ze_Q_unknown_66 : decode zb_Q_unknown 66 = .ok (.iaload, 1) := by decide +kernel
theorem ze_Q_unknown_67 : decode zb_Q_unknown 67 = .ok (.bipush 59, 2) := by decide +kernel
theorem ze_Q_unknown_69 : decode zb_Q_unknown 69 = .ok (.if_icmp .eq 7, 3) := by decide +kernel
theorem ze_Q_unknown_72 : decode zb_Q_unknown 72 = .ok (.iconst 1, 1) := by decide +kernel
theorem ze_Q_unknown_73 : decode zb_Q_unknown 73 = .ok (.goto 4, 3) := by decide +kernel
theorem ze_Q_unknown_76 : decode zb_Q_unknown 76 = .ok (.iconst 0, 1) := by decide +kernel
theorem ze_Q_unknown_77 : decode zb_Q_unknown 77 = .ok (.istore_n 1, 1) := by decide +kernel
theorem ze_Q_unknown_78 : decode zb_Q_unknown 78 = .ok (.iinc 2 1, 3) := by decide +kernel
theorem ze_Q_unknown_81 : decode zb_Q_unknown 81 = .ok (.goto (-77), 3) := by decide +kernel
theorem ze_Q_unknown_84 : decode zb_Q_unknown 84 = .ok (.iconst 0, 1) := by decide +kernel
theorem ze_Q_unknown_85 : decode zb_Q_unknown 85 = .ok (.ireturn, 1) := by decide +kernel
theorem ze_Q_genes_0 : decode zb_Q_genes 0 = .ok (.aload_n 0, 1) := by decide +kernel
theorem ze_Q_genes_1 : decode zb_Q_genes 1 = .ok (.getfield 126, 3) := by decide +kernel
theorem ze_Q_genes_4 : decode zb_Q_genes 4 = .ok (.ireturn, 1) := by decide +kernel
theorem ze_Q_gene_0 : decode zb_Q_gene 0 = .ok (.iconst 0, 1) := by decide +kernel
theorem ze_Q_gene_1 : decode zb_Q_gene 1 = .ok (.istore_n 2, 1) := by decide +kernel
theorem ze_Q_gene_2 : decode zb_Q_gene 2 = .ok (.iload_n 2, 1) := by decide +kernel
theorem ze_Q_gene_3 : decode zb_Q_gene 3 = .ok (.aload_n 0, 1) := by decide +kernel
theorem ze_Q_gene_4 : decode zb_Q_gene 4 = .ok (.getfield 126, 3) := by decide +kernel
theorem ze_Q_gene_7 : decode zb_Q_gene 7 = .ok (.if_icmp .ge 21, 3) := by decide +kernel
theorem ze_Q_gene_10 : decode zb_Q_gene 10 = .ok (.aload_n 0, 1) := by decide +kernel
theorem ze_Q_gene_11 : decode zb_Q_gene 11 = .ok (.getfield 13, 3) := by decide +kernel
theorem ze_Q_gene_14 : decode zb_Q_gene 14 = .ok (.iload_n 2, 1) := by decide +kernel
theorem ze_Q_gene_15 : decode zb_Q_gene 15 = .ok (.iaload, 1) := by decide +kernel
theorem ze_Q_gene_16 : decode zb_Q_gene 16 = .ok (.iload_n 1, 1) := by decide +kernel
theorem ze_Q_gene_17 : decode zb_Q_gene 17 = .ok (.if_icmp .ne 5, 3) := by decide +kernel
theorem ze_Q_gene_20 : decode zb_Q_gene 20 = .ok (.iload_n 2, 1) := by decide +kernel
theorem ze_Q_gene_21 : decode zb_Q_gene 21 = .ok (.ireturn, 1) := by decide +kernel
theorem ze_Q_gene_22 : decode zb_Q_gene 22 = .ok (.iinc 2 1, 3) := by decide +kernel
theorem ze_Q_gene_25 : decode zb_Q_gene 25 = .ok (.goto (-23), 3) := by decide +kernel
theorem ze_Q_gene_28 : decode zb_Q_gene 28 = .ok (.iconst (-1), 1) := by decide +kernel
theorem ze_Q_gene_29 : decode zb_Q_gene 29 = .ok (.ireturn, 1) := by decide +kernel
theorem ze_Q_isGene_0 : decode zb_Q_isGene 0 = .ok (.iload_n 1, 1) := by decide +kernel
theorem ze_Q_isGene_1 : decode zb_Q_isGene 1 = .ok (.ifCond .lt 15, 3) := by decide +kernel
theorem ze_Q_isGene_4 : decode zb_Q_isGene 4 = .ok (.iload_n 1, 1) := by decide +kernel
theorem ze_Q_isGene_5 : decode zb_Q_isGene 5 = .ok (.aload_n 0, 1) := by decide +kernel
theorem ze_Q_isGene_6 : decode zb_Q_isGene 6 = .ok (.getfield 126, 3) := by decide +kernel
theorem ze_Q_isGene_9 : decode zb_Q_isGene 9 = .ok (.if_icmp .ge 7, 3) := by decide +kernel
theorem ze_Q_isGene_12 : decode zb_Q_isGene 12 = .ok (.iconst 1, 1) := by decide +kernel
theorem ze_Q_isGene_13 : decode zb_Q_isGene 13 = .ok (.goto 4, 3) := by decide +kernel
theorem ze_Q_isGene_16 : decode zb_Q_isGene 16 = .ok (.iconst 0, 1) := by decide +kernel
theorem ze_Q_isGene_17 : decode zb_Q_isGene 17 = .ok (.ireturn, 1) := by decide +kernel
theorem ze_Q_isState_0 : decode zb_Q_isState 0 = .ok (.aload_n 0, 1) := by decide +kernel
theorem ze_Q_isState_1 : decode zb_Q_isState 1 = .ok (.getfield 126, 3) := by decide +kernel
theorem ze_Q_isState_4 : decode zb_Q_isState 4 = .ok (.ifCond .le 21, 3) := by decide +kernel
theorem ze_Q_isState_7 : decode zb_Q_isState 7 = .ok (.iload_n 1, 1) := by decide +kernel
theorem ze_Q_isState_8 : decode zb_Q_isState 8 = .ok (.ifCond .lt 17, 3) := by decide +kernel
theorem ze_Q_isState_11 : decode zb_Q_isState 11 = .ok (.iload_n 1, 1) := by decide +kernel
theorem ze_Q_isState_12 : decode zb_Q_isState 12 = .ok (.iconst 1, 1) := by decide +kernel
theorem ze_Q_isState_13 : decode zb_Q_isState 13 = .ok (.aload_n 0, 1) := by decide +kernel
theorem ze_Q_isState_14 : decode zb_Q_isState 14 = .ok (.getfield 126, 3) := by decide +kernel
theorem ze_Q_isState_17 : decode zb_Q_isState 17 = .ok (.ishl, 1) := by decide +kernel
theorem ze_Q_isState_18 : decode zb_Q_isState 18 = .ok (.if_icmp .ge 7, 3) := by decide +kernel
theorem ze_Q_isState_21 : decode zb_Q_isState 21 = .ok (.iconst 1, 1) := by decide +kernel
theorem ze_Q_isState_22 : decode zb_Q_isState 22 = .ok (.goto 4, 3) := by decide +kernel
theorem ze_Q_isState_25 : decode zb_Q_isState 25 = .ok (.iconst 0, 1) := by decide +kernel
theorem ze_Q_isState_26 : decode zb_Q_isState 26 = .ok (.ireturn, 1) := by decide +kernel
theorem ze_Q_fix_0 : decode zb_Q_fix 0 = .ok (.aload_n 0, 1) := by decide +kernel
theorem ze_Q_fix_1 : decode zb_Q_fix 1 = .ok (.iload_n 1, 1) := by decide +kernel
theorem ze_Q_fix_2 : decode zb_Q_fix 2 = .ok (.invokevirtual 133, 3) := by decide +kernel
theorem ze_Q_fix_5 : decode zb_Q_fix 5 = .ok (.ifCond .eq 12, 3) := by decide +kernel
theorem ze_Q_fix_8 : decode zb_Q_fix 8 = .ok (.iload_n 2, 1) := by decide +kernel
theorem ze_Q_fix_9 : decode zb_Q_fix 9 = .ok (.ifCond .lt 8, 3) := by decide +kernel
theorem ze_Q_fix_12 : decode zb_Q_fix 12 = .ok (.iload_n 2, 1) := by decide +kernel
theorem ze_Q_fix_13 : decode zb_Q_fix 13 = .ok (.iconst 2, 1) := by decide +kernel
theorem ze_Q_fix_14 : decode zb_Q_fix 14 = .ok (.if_icmp .le 5, 3) := by decide +kernel
theorem ze_Q_fix_17 : decode zb_Q_fix 17 = .ok (.iconst 0, 1) := by decide +kernel
theorem ze_Q_fix_18 : decode zb_Q_fix 18 = .ok (.ireturn, 1) := by decide +kernel
theorem ze_Q_fix_19 : decode zb_Q_fix 19 = .ok (.aload_n 0, 1) := by decide +kernel
theorem ze_Q_fix_20 : decode zb_Q_fix 20 = .ok (.getfield 23, 3) := by decide +kernel
theorem ze_Q_fix_23 : decode zb_Q_fix 23 = .ok (.iload_n 1, 1) := by decide +kernel
theorem ze_Q_fix_24 : decode zb_Q_fix 24 = .ok (.iload_n 2, 1) := by decide +kernel
theorem ze_Q_fix_25 : decode zb_Q_fix 25 = .ok (.iastore, 1) := by decide +kernel
theorem ze_Q_fix_26 : decode zb_Q_fix 26 = .ok (.aload_n 0, 1) := by decide +kernel
theorem ze_Q_fix_27 : decode zb_Q_fix 27 = .ok (.iconst 0, 1) := by decide +kernel
theorem ze_Q_fix_28 : decode zb_Q_fix 28 = .ok (.putfield 129, 3) := by decide +kernel
theorem ze_Q_fix_31 : decode zb_Q_fix 31 = .ok (.iconst 1, 1) := by decide +kernel
theorem ze_Q_fix_32 : decode zb_Q_fix 32 = .ok (.ireturn, 1) := by decide +kernel
theorem ze_Q_valueAt_0 : decode zb_Q_valueAt 0 = .ok (.aload_n 0, 1) := by decide +kernel
theorem ze_Q_valueAt_1 : decode zb_Q_valueAt 1 = .ok (.getfield 23, 3) := by decide +kernel
theorem ze_Q_valueAt_4 : decode zb_Q_valueAt 4 = .ok (.iload_n 1, 1) := by decide +kernel
theorem ze_Q_valueAt_5 : decode zb_Q_valueAt 5 = .ok (.iaload, 1) := by decide +kernel
theorem ze_Q_valueAt_6 : decode zb_Q_valueAt 6 = .ok (.iconst 2, 1) := by decide +kernel
theorem ze_Q_valueAt_7 : decode zb_Q_valueAt 7 = .ok (.if_icmp .ge 10, 3) := by decide +kernel
theorem ze_Q_valueAt_10 : decode zb_Q_valueAt 10 = .ok (.aload_n 0, 1) := by decide +kernel
theorem ze_Q_valueAt_11 : decode zb_Q_valueAt 11 = .ok (.getfield 23, 3) := by decide +kernel
theorem ze_Q_valueAt_14 : decode zb_Q_valueAt 14 = .ok (.iload_n 1, 1) := by decide +kernel
theorem ze_Q_valueAt_15 : decode zb_Q_valueAt 15 = .ok (.iaload, 1) := by decide +kernel
theorem ze_Q_valueAt_16 : decode zb_Q_valueAt 16 = .ok (.ireturn, 1) := by decide +kernel
theorem ze_Q_valueAt_17 : decode zb_Q_valueAt 17 = .ok (.iload_n 2, 1) := by decide +kernel
theorem ze_Q_valueAt_18 : decode zb_Q_valueAt 18 = .ok (.bipush 64, 2) := by decide +kernel
theorem ze_Q_valueAt_20 : decode zb_Q_valueAt 20 = .ok (.if_icmp .ge 14, 3) := by decide +kernel
theorem ze_Q_valueAt_23 : decode zb_Q_valueAt 23 = .ok (.aload_n 0, 1) := by decide +kernel
theorem ze_Q_valueAt_24 : decode zb_Q_valueAt 24 = .ok (.getfield 16, 3) := by decide +kernel
theorem ze_Q_valueAt_27 : decode zb_Q_valueAt 27 = .ok (.iload_n 1, 1) := by decide +kernel
theorem ze_Q_valueAt_28 : decode zb_Q_valueAt 28 = .ok (.laload, 1) := by decide +kernel
theorem ze_Q_valueAt_29 : decode zb_Q_valueAt 29 = .ok (.iload_n 2, 1) := by decide +kernel
theorem ze_Q_valueAt_30 : decode zb_Q_valueAt 30 = .ok (.lshr, 1) := by decide +kernel
theorem ze_Q_valueAt_31 : decode zb_Q_valueAt 31 = .ok (.goto 14, 3) := by decide +kernel
theorem ze_Q_valueAt_34 : decode zb_Q_valueAt 34 = .ok (.aload_n 0, 1) := by decide +kernel
theorem ze_Q_valueAt_35 : decode zb_Q_valueAt 35 = .ok (.getfield 20, 3) := by decide +kernel
theorem ze_Q_valueAt_38 : decode zb_Q_valueAt 38 = .ok (.iload_n 1, 1) := by decide +kernel
theorem ze_Q_valueAt_39 : decode zb_Q_valueAt 39 = .ok (.laload, 1) := by decide +kernel
theorem ze_Q_valueAt_40 : decode zb_Q_valueAt 40 = .ok (.iload_n 2, 1) := by decide +kernel
theorem ze_Q_valueAt_41 : decode zb_Q_valueAt 41 = .ok (.bipush 64, 2) := by decide +kernel
theorem ze_Q_valueAt_43 : decode zb_Q_valueAt 43 = .ok (.isub, 1) := by decide +kernel
theorem ze_Q_valueAt_44 : decode zb_Q_valueAt 44 = .ok (.lshr, 1) := by decide +kernel
theorem ze_Q_valueAt_45 : decode zb_Q_valueAt 45 = .ok (.lstore_n 3, 1) := by decide +kernel
theorem ze_Q_valueAt_46 : decode zb_Q_valueAt 46 = .ok (.lload_n 3, 1) := by decide +kernel
theorem ze_Q_valueAt_47 : decode zb_Q_valueAt 47 = .ok (.lconst 1, 1) := by decide +kernel
theorem ze_Q_valueAt_48 : decode zb_Q_valueAt 48 = .ok (.land, 1) := by decide +kernel
theorem ze_Q_valueAt_49 : decode zb_Q_valueAt 49 = .ok (.l2i, 1) := by decide +kernel
theorem ze_Q_valueAt_50 : decode zb_Q_valueAt 50 = .ok (.ireturn, 1) := by decide +kernel
theorem ze_Q_value_0 : decode zb_Q_value 0 = .ok (.aload_n 0, 1) := by decide +kernel
theorem ze_Q_value_1 : decode zb_Q_value 1 = .ok (.iload_n 1, 1) := by decide +kernel
theorem ze_Q_value_2 : decode zb_Q_value 2 = .ok (.invokevirtual 133, 3) := by decide +kernel
theorem ze_Q_value_5 : decode zb_Q_value 5 = .ok (.ifCond .eq 20, 3) := by decide +kernel
theorem ze_Q_value_8 : decode zb_Q_value 8 = .ok (.aload_n 0, 1) := by decide +kernel
theorem ze_Q_value_9 : decode zb_Q_value 9 = .ok (.iload_n 2, 1) := by decide +kernel
theorem ze_Q_value_10 : decode zb_Q_value 10 = .ok (.invokevirtual 136, 3) := by decide +kernel
theorem ze_Q_value_13 : decode zb_Q_value 13 = .ok (.ifCond .eq 12, 3) := by decide +kernel
theorem ze_Q_value_16 : decode zb_Q_value 16 = .ok (.aload_n 0, 1) := by decide +kernel
theorem ze_Q_value_17 : decode zb_Q_value 17 = .ok (.iload_n 1, 1) := by decide +kernel
theorem ze_Q_value_18 : decode zb_Q_value 18 = .ok (.iload_n 2, 1) := by decide +kernel
theorem ze_Q_value_19 : decode zb_Q_value 19 = .ok (.invokevirtual 139, 3) := by decide +kernel
theorem ze_Q_value_22 : decode zb_Q_value 22 = .ok (.goto 4, 3) := by decide +kernel
theorem ze_Q_value_25 : decode zb_Q_value 25 = .ok (.iconst (-1), 1) := by decide +kernel
theorem ze_Q_value_26 : decode zb_Q_value 26 = .ok (.ireturn, 1) := by decide +kernel
theorem ze_Q_next_0 : decode zb_Q_next 0 = .ok (.aload_n 0, 1) := by decide +kernel
theorem ze_Q_next_1 : decode zb_Q_next 1 = .ok (.iload_n 1, 1) := by decide +kernel
theorem ze_Q_next_2 : decode zb_Q_next 2 = .ok (.invokevirtual 136, 3) := by decide +kernel
theorem ze_Q_next_5 : decode zb_Q_next 5 = .ok (.ifCond .ne 5, 3) := by decide +kernel
theorem ze_Q_next_8 : decode zb_Q_next 8 = .ok (.iconst (-1), 1) := by decide +kernel
theorem ze_Q_next_9 : decode zb_Q_next 9 = .ok (.ireturn, 1) := by decide +kernel
theorem ze_Q_next_10 : decode zb_Q_next 10 = .ok (.iconst 0, 1) := by decide +kernel
theorem ze_Q_next_11 : decode zb_Q_next 11 = .ok (.istore_n 2, 1) := by decide +kernel
theorem ze_Q_next_12 : decode zb_Q_next 12 = .ok (.iconst 0, 1) := by decide +kernel
theorem ze_Q_next_13 : decode zb_Q_next 13 = .ok (.istore_n 3, 1) := by decide +kernel
theorem ze_Q_next_14 : decode zb_Q_next 14 = .ok (.iload_n 3, 1) := by decide +kernel
theorem ze_Q_next_15 : decode zb_Q_next 15 = .ok (.aload_n 0, 1) := by decide +kernel
theorem ze_Q_next_16 : decode zb_Q_next 16 = .ok (.getfield 126, 3) := by decide +kernel
theorem ze_Q_next_19 : decode zb_Q_next 19 = .ok (.if_icmp .ge 20, 3) := by decide +kernel
theorem ze_Q_next_22 : decode zb_Q_next 22 = .ok (.iload_n 2, 1) := by decide +kernel
theorem ze_Q_next_23 : decode zb_Q_next 23 = .ok (.aload_n 0, 1) := by decide +kernel
theorem ze_Q_next_24 : decode zb_Q_next 24 = .ok (.iload_n 3, 1) := by decide +kernel
theorem ze_Q_next_25 : decode zb_Q_next 25 = .ok (.iload_n 1, 1) := by decide +kernel
theorem ze_Q_next_26 : decode zb_Q_next 26 = .ok (.invokevirtual 139, 3) := by decide +kernel
theorem ze_Q_next_29 : decode zb_Q_next 29 = .ok (.iload_n 3, 1) := by decide +kernel
theorem ze_Q_next_30 : decode zb_Q_next 30 = .ok (.ishl, 1) := by decide +kernel
theorem ze_Q_next_31 : decode zb_Q_next 31 = .ok (.iadd, 1) := by decide +kernel
theorem ze_Q_next_32 : decode zb_Q_next 32 = .ok (.istore_n 2, 1) := by decide +kernel
theorem ze_Q_next_33 : decode zb_Q_next 33 = .ok (.iinc 3 1, 3) := by decide +kernel
theorem ze_Q_next_36 : decode zb_Q_next 36 = .ok (.goto (-22), 3) := by decide +kernel
theorem ze_Q_next_39 : decode zb_Q_next 39 = .ok (.iload_n 2, 1) := by decide +kernel
theorem ze_Q_next_40 : decode zb_Q_next 40 = .ok (.ireturn, 1) := by decide +kernel
theorem ze_Q_sameLeft_0 : decode zb_Q_sameLeft 0 = .ok (.iconst 1, 1) := by decide +kernel
theorem ze_Q_sameLeft_1 : decode zb_Q_sameLeft 1 = .ok (.istore 5, 2) := by decide +kernel
theorem ze_Q_sameLeft_3 : decode zb_Q_sameLeft 3 = .ok (.iconst 0, 1) := by decide +kernel
theorem ze_Q_sameLeft_4 : decode zb_Q_sameLeft 4 = .ok (.istore 6, 2) := by decide +kernel
theorem ze_Q_sameLeft_6 : decode zb_Q_sameLeft 6 = .ok (.iload 6, 2) := by decide +kernel
theorem ze_Q_sameLeft_8 : decode zb_Q_sameLeft 8 = .ok (.iconst 1, 1) := by decide +kernel
theorem ze_Q_sameLeft_9 : decode zb_Q_sameLeft 9 = .ok (.aload_n 0, 1) := by decide +kernel
theorem ze_Q_sameLeft_10 : decode zb_Q_sameLeft 10 = .ok (.getfield 126, 3) := by decide +kernel
theorem ze_Q_sameLeft_13 : decode zb_Q_sameLeft 13 = .ok (.iload_n 2, 1) := by decide +kernel
theorem ze_Q_sameLeft_14 : decode zb_Q_sameLeft 14 = .ok (.isub, 1) := by decide +kernel
theorem ze_Q_sameLeft_15 : decode zb_Q_sameLeft 15 = .ok (.ishl, 1) := by decide +kernel
theorem ze_Q_sameLeft_16 : decode zb_Q_sameLeft 16 = .ok (.if_icmp .ge 47, 3) := by decide +kernel
theorem ze_Q_sameLeft_19 : decode zb_Q_sameLeft 19 = .ok (.iload 5, 2) := by decide +kernel
theorem ze_Q_sameLeft_21 : decode zb_Q_sameLeft 21 = .ok (.ifCond .eq 33, 3) := by decide +kernel
theorem ze_Q_sameLeft_24 : decode zb_Q_sameLeft 24 = .ok (.aload_n 0, 1) := by decide +kernel
theorem ze_Q_sameLeft_25 : decode zb_Q_sameLeft 25 = .ok (.iload_n 1, 1) := by decide +kernel
theorem ze_Q_sameLeft_26 : decode zb_Q_sameLeft 26 = .ok (.iload_n 3, 1) := by decide +kernel
theorem ze_Q_sameLeft_27 : decode zb_Q_sameLeft 27 = .ok (.iload 6, 2) := by decide +kernel
theorem ze_Q_sameLeft_29 : decode zb_Q_sameLeft 29 = .ok (.iload_n 2, 1) := by decide +kernel
theorem ze_Q_sameLeft_30 : decode zb_Q_sameLeft 30 = .ok (.ishl, 1) := by decide +kernel
theorem ze_Q_sameLeft_31 : decode zb_Q_sameLeft 31 = .ok (.iadd, 1) := by decide +kernel
theorem ze_Q_sameLeft_32 : decode zb_Q_sameLeft 32 = .ok (.invokevirtual 139, 3) := by decide +kernel
theorem ze_Q_sameLeft_35 : decode zb_Q_sameLeft 35 = .ok (.aload_n 0, 1) := by decide +kernel
theorem ze_Q_sameLeft_36 : decode zb_Q_sameLeft 36 = .ok (.iload_n 1, 1) := by decide +kernel
theorem ze_Q_sameLeft_37 : decode zb_Q_sameLeft 37 = .ok (.iload 4, 2) := by decide +kernel
theorem ze_Q_sameLeft_39 : decode zb_Q_sameLeft 39 = .ok (.iload 6, 2) := by decide +kernel
theorem ze_Q_sameLeft_41 : decode zb_Q_sameLeft 41 = .ok (.iload_n 2, 1) := by decide +kernel
theorem ze_Q_sameLeft_42 : decode zb_Q_sameLeft 42 = .ok (.ishl, 1) := by decide +kernel
theorem ze_Q_sameLeft_43 : decode zb_Q_sameLeft 43 = .ok (.iadd, 1) := by decide +kernel
theorem ze_Q_sameLeft_44 : decode zb_Q_sameLeft 44 = .ok (.invokevirtual 139, 3) := by decide +kernel
theorem ze_Q_sameLeft_47 : decode zb_Q_sameLeft 47 = .ok (.if_icmp .ne 7, 3) := by decide +kernel
theorem ze_Q_sameLeft_50 : decode zb_Q_sameLeft 50 = .ok (.iconst 1, 1) := by decide +kernel
theorem ze_Q_sameLeft_51 : decode zb_Q_sameLeft 51 = .ok (.goto 4, 3) := by decide +kernel
theorem ze_Q_sameLeft_54 : decode zb_Q_sameLeft 54 = .ok (.iconst 0, 1) := by decide +kernel
theorem ze_Q_sameLeft_55 : decode zb_Q_sameLeft 55 = .ok (.istore 5, 2) := by decide +kernel
theorem ze_Q_sameLeft_57 : decode zb_Q_sameLeft 57 = .ok (.iinc 6 1, 3) := by decide +kernel
theorem ze_Q_sameLeft_60 : decode zb_Q_sameLeft 60 = .ok (.goto (-54), 3) := by decide +kernel
theorem ze_Q_sameLeft_63 : decode zb_Q_sameLeft 63 = .ok (.iload 5, 2) := by decide +kernel
theorem ze_Q_sameLeft_65 : decode zb_Q_sameLeft 65 = .ok (.ireturn, 1) := by decide +kernel
theorem ze_Q_differs_0 : decode zb_Q_differs 0 = .ok (.iconst 0, 1) := by decide +kernel
theorem ze_Q_differs_1 : decode zb_Q_differs 1 = .ok (.istore 4, 2) := by decide +kernel
theorem ze_Q_differs_3 : decode zb_Q_differs 3 = .ok (.iconst 0, 1) := by decide +kernel
theorem ze_Q_differs_4 : decode zb_Q_differs 4 = .ok (.istore 5, 2) := by decide +kernel
theorem ze_Q_differs_6 : decode zb_Q_differs 6 = .ok (.iload 5, 2) := by decide +kernel
theorem ze_Q_differs_8 : decode zb_Q_differs 8 = .ok (.iconst 1, 1) := by decide +kernel
theorem ze_Q_differs_9 : decode zb_Q_differs 9 = .ok (.aload_n 0, 1) := by decide +kernel
theorem ze_Q_differs_10 : decode zb_Q_differs 10 = .ok (.getfield 126, 3) := by decide +kernel
theorem ze_Q_differs_13 : decode zb_Q_differs 13 = .ok (.iload_n 2, 1) := by decide +kernel
theorem ze_Q_differs_14 : decode zb_Q_differs 14 = .ok (.isub, 1) := by decide +kernel
theorem ze_Q_differs_15 : decode zb_Q_differs 15 = .ok (.ishl, 1) := by decide +kernel
theorem ze_Q_differs_16 : decode zb_Q_differs 16 = .ok (.if_icmp .ge 50, 3) := by decide +kernel
theorem ze_Q_differs_19 : decode zb_Q_differs 19 = .ok (.iload_n 3, 1) := by decide +kernel
theorem ze_Q_differs_20 : decode zb_Q_differs 20 = .ok (.iload 5, 2) := by decide +kernel
theorem ze_Q_differs_22 : decode zb_Q_differs 22 = .ok (.iload_n 2, 1) := by decide +kernel
theorem ze_Q_differs_23 : decode zb_Q_differs 23 = .ok (.ishl, 1) := by decide +kernel
theorem ze_Q_differs_24 : decode zb_Q_differs 24 = .ok (.iadd, 1) := by decide +kernel
theorem ze_Q_differs_25 : decode zb_Q_differs 25 = .ok (.istore 6, 2) := by decide +kernel
theorem ze_Q_differs_27 : decode zb_Q_differs 27 = .ok (.iload 4, 2) := by decide +kernel
theorem ze_Q_differs_29 : decode zb_Q_differs 29 = .ok (.ifCond .ne 24, 3) := by decide +kernel
theorem ze_Q_differs_32 : decode zb_Q_differs 32 = .ok (.aload_n 0, 1) := by decide +kernel
theorem ze_Q_differs_33 : decode zb_Q_differs 33 = .ok (.iload_n 1, 1) := by decide +kernel
theorem ze_Q_differs_34 : decode zb_Q_differs 34 = .ok (.iload 6, 2) := by decide +kernel
theorem ze_Q_differs_36 : decode zb_Q_differs 36 = .ok (.invokevirtual 139, 3) := by decide +kernel
theorem ze_Q_differs_39 : decode zb_Q_differs 39 = .ok (.aload_n 0, 1) := by decide +kernel
theorem ze_Q_differs_40 : decode zb_Q_differs 40 = .ok (.iload_n 1, 1) := by decide +kernel
theorem ze_Q_differs_41 : decode zb_Q_differs 41 = .ok (.iload 6, 2) := by decide +kernel
theorem ze_Q_differs_43 : decode zb_Q_differs 43 = .ok (.iconst 1, 1) := by decide +kernel
theorem ze_Q_differs_44 : decode zb_Q_differs 44 = .ok (.iload_n 2, 1) := by decide +kernel
theorem ze_Q_differs_45 : decode zb_Q_differs 45 = .ok (.ishl, 1) := by decide +kernel
theorem ze_Q_differs_46 : decode zb_Q_differs 46 = .ok (.ixor, 1) := by decide +kernel
theorem ze_Q_differs_47 : decode zb_Q_differs 47 = .ok (.invokevirtual 139, 3) := by decide +kernel
theorem ze_Q_differs_50 : decode zb_Q_differs 50 = .ok (.if_icmp .eq 7, 3) := by decide +kernel
theorem ze_Q_differs_53 : decode zb_Q_differs 53 = .ok (.iconst 1, 1) := by decide +kernel
theorem ze_Q_differs_54 : decode zb_Q_differs 54 = .ok (.goto 4, 3) := by decide +kernel
theorem ze_Q_differs_57 : decode zb_Q_differs 57 = .ok (.iconst 0, 1) := by decide +kernel
theorem ze_Q_differs_58 : decode zb_Q_differs 58 = .ok (.istore 4, 2) := by decide +kernel
theorem ze_Q_differs_60 : decode zb_Q_differs 60 = .ok (.iinc 5 1, 3) := by decide +kernel
theorem ze_Q_differs_63 : decode zb_Q_differs 63 = .ok (.goto (-57), 3) := by decide +kernel
theorem ze_Q_differs_66 : decode zb_Q_differs 66 = .ok (.iload 4, 2) := by decide +kernel
theorem ze_Q_differs_68 : decode zb_Q_differs 68 = .ok (.ireturn, 1) := by decide +kernel
theorem ze_Q_spread_0 : decode zb_Q_spread 0 = .ok (.aload_n 0, 1) := by decide +kernel
theorem ze_Q_spread_1 : decode zb_Q_spread 1 = .ok (.iload_n 1, 1) := by decide +kernel
theorem ze_Q_spread_2 : decode zb_Q_spread 2 = .ok (.invokevirtual 133, 3) := by decide +kernel
theorem ze_Q_spread_5 : decode zb_Q_spread 5 = .ok (.ifCond .ne 5, 3) := by decide +kernel
theorem ze_Q_spread_8 : decode zb_Q_spread 8 = .ok (.iconst (-1), 1) := by decide +kernel
theorem ze_Q_spread_9 : decode zb_Q_spread 9 = .ok (.ireturn, 1) := by decide +kernel
theorem ze_Q_spread_10 : decode zb_Q_spread 10 = .ok (.iconst 0, 1) := by decide +kernel
theorem ze_Q_spread_11 : decode zb_Q_spread 11 = .ok (.istore_n 2, 1) := by decide +kernel
theorem ze_Q_spread_12 : decode zb_Q_spread 12 = .ok (.iconst 0, 1) := by decide +kernel
theorem ze_Q_spread_13 : decode zb_Q_spread 13 = .ok (.istore_n 3, 1) := by decide +kernel
theorem ze_Q_spread_14 : decode zb_Q_spread 14 = .ok (.iload_n 3, 1) := by decide +kernel
theorem ze_Q_spread_15 : decode zb_Q_spread 15 = .ok (.aload_n 0, 1) := by decide +kernel
theorem ze_Q_spread_16 : decode zb_Q_spread 16 = .ok (.getfield 126, 3) := by decide +kernel
theorem ze_Q_spread_19 : decode zb_Q_spread 19 = .ok (.if_icmp .ge 90, 3) := by decide +kernel
theorem ze_Q_spread_22 : decode zb_Q_spread 22 = .ok (.iconst 0, 1) := by decide +kernel
theorem ze_Q_spread_23 : decode zb_Q_spread 23 = .ok (.istore 4, 2) := by decide +kernel
theorem ze_Q_spread_25 : decode zb_Q_spread 25 = .ok (.iload 4, 2) := by decide +kernel
theorem ze_Q_spread_27 : decode zb_Q_spread 27 = .ok (.iconst 1, 1) := by decide +kernel
theorem ze_Q_spread_28 : decode zb_Q_spread 28 = .ok (.iload_n 3, 1) := by decide +kernel
theorem ze_Q_spread_29 : decode zb_Q_spread 29 = .ok (.ishl, 1) := by decide +kernel
theorem ze_Q_spread_30 : decode zb_Q_spread 30 = .ok (.if_icmp .ge 73, 3) := by decide +kernel
theorem ze_Q_spread_33 : decode zb_Q_spread 33 = .ok (.aload_n 0, 1) := by decide +kernel
theorem ze_Q_spread_34 : decode zb_Q_spread 34 = .ok (.iload_n 1, 1) := by decide +kernel
theorem ze_Q_spread_35 : decode zb_Q_spread 35 = .ok (.iload_n 3, 1) := by decide +kernel
theorem ze_Q_spread_36 : decode zb_Q_spread 36 = .ok (.iload 4, 2) := by decide +kernel
theorem ze_Q_spread_38 : decode zb_Q_spread 38 = .ok (.invokevirtual 143, 3) := by decide +kernel
theorem ze_Q_spread_41 : decode zb_Q_spread 41 = .ok (.istore 5, 2) := by decide +kernel
theorem ze_Q_spread_43 : decode zb_Q_spread 43 = .ok (.iconst 0, 1) := by decide +kernel
theorem ze_Q_spread_44 : decode zb_Q_spread 44 = .ok (.istore 6, 2) := by decide +kernel
theorem ze_Q_spread_46 : decode zb_Q_spread 46 = .ok (.iload 6, 2) := by decide +kernel
theorem ze_Q_spread_48 : decode zb_Q_spread 48 = .ok (.iload 4, 2) := by decide +kernel
theorem ze_Q_spread_50 : decode zb_Q_spread 50 = .ok (.if_icmp .ge 34, 3) := by decide +kernel
theorem ze_Q_spread_53 : decode zb_Q_spread 53 = .ok (.iload 5, 2) := by decide +kernel
theorem ze_Q_spread_55 : decode zb_Q_spread 55 = .ok (.ifCond .eq 29, 3) := by decide +kernel
theorem ze_Q_spread_58 : decode zb_Q_spread 58 = .ok (.aload_n 0, 1) := by decide +kernel
theorem ze_Q_spread_59 : decode zb_Q_spread 59 = .ok (.iload_n 1, 1) := by decide +kernel
theorem ze_Q_spread_60 : decode zb_Q_spread 60 = .ok (.iload_n 3, 1) := by decide +kernel
theorem ze_Q_spread_61 : decode zb_Q_spread 61 = .ok (.iload 4, 2) := by decide +kernel
theorem ze_Q_spread_63 : decode zb_Q_spread 63 = .ok (.iload 6, 2) := by decide +kernel
theorem ze_Q_spread_65 : decode zb_Q_spread 65 = .ok (.invokevirtual 147, 3) := by decide +kernel
theorem ze_Q_spread_68 : decode zb_Q_spread 68 = .ok (.ifCond .ne 7, 3) := by decide +kernel
theorem ze_Q_spread_71 : decode zb_Q_spread 71 = .ok (.iconst 1, 1) := by decide +kernel
theorem ze_Q_spread_72 : decode zb_Q_spread 72 = .ok (.goto 4, 3) := by decide +kernel
theorem ze_Q_spread_75 : decode zb_Q_spread 75 = .ok (.iconst 0, 1) := by decide +kernel
theorem ze_Q_spread_76 : decode zb_Q_spread 76 = .ok (.istore 5, 2) := by decide +kernel
theorem ze_Q_spread_78 : decode zb_Q_spread 78 = .ok (.iinc 6 1, 3) := by decide +kernel
theorem ze_Q_spread_81 : decode zb_Q_spread 81 = .ok (.goto (-35), 3) := by decide +kernel
theorem ze_Q_spread_84 : decode zb_Q_spread 84 = .ok (.iload_n 2, 1) := by decide +kernel
theorem ze_Q_spread_85 : decode zb_Q_spread 85 = .ok (.iload 5, 2) := by decide +kernel
theorem ze_Q_spread_87 : decode zb_Q_spread 87 = .ok (.ifCond .eq 7, 3) := by decide +kernel
theorem ze_Q_spread_90 : decode zb_Q_spread 90 = .ok (.iconst 1, 1) := by decide +kernel
theorem ze_Q_spread_91 : decode zb_Q_spread 91 = .ok (.goto 4, 3) := by decide +kernel
theorem ze_Q_spread_94 : decode zb_Q_spread 94 = .ok (.iconst 0, 1) := by decide +kernel
theorem ze_Q_spread_95 : decode zb_Q_spread 95 = .ok (.iadd, 1) := by decide +kernel
theorem ze_Q_spread_96 : decode zb_Q_spread 96 = .ok (.istore_n 2, 1) := by decide +kernel
theorem ze_Q_spread_97 : decode zb_Q_spread 97 = .ok (.iinc 4 1, 3) := by decide +kernel
theorem ze_Q_spread_100 : decode zb_Q_spread 100 = .ok (.goto (-75), 3) := by decide +kernel
theorem ze_Q_spread_103 : decode zb_Q_spread 103 = .ok (.iinc 3 1, 3) := by decide +kernel
theorem ze_Q_spread_106 : decode zb_Q_spread 106 = .ok (.goto (-92), 3) := by decide +kernel
theorem ze_Q_spread_109 : decode zb_Q_spread 109 = .ok (.iload_n 2, 1) := by decide +kernel
theorem ze_Q_spread_110 : decode zb_Q_spread 110 = .ok (.ireturn, 1) := by decide +kernel
theorem ze_Q_leads_0 : decode zb_Q_leads 0 = .ok (.iload_n 2, 1) := by decide +kernel
theorem ze_Q_leads_1 : decode zb_Q_leads 1 = .ok (.bipush 64, 2) := by decide +kernel
theorem ze_Q_leads_3 : decode zb_Q_leads 3 = .ok (.if_icmp .ge 26, 3) := by decide +kernel
theorem ze_Q_leads_6 : decode zb_Q_leads 6 = .ok (.aload_n 0, 1) := by decide +kernel
theorem ze_Q_leads_7 : decode zb_Q_leads 7 = .ok (.getfield 38, 3) := by decide +kernel
theorem ze_Q_leads_10 : decode zb_Q_leads 10 = .ok (.iload_n 1, 1) := by decide +kernel
theorem ze_Q_leads_11 : decode zb_Q_leads 11 = .ok (.laload, 1) := by decide +kernel
theorem ze_Q_leads_12 : decode zb_Q_leads 12 = .ok (.iload_n 2, 1) := by decide +kernel
theorem ze_Q_leads_13 : decode zb_Q_leads 13 = .ok (.lshr, 1) := by decide +kernel
theorem ze_Q_leads_14 : decode zb_Q_leads 14 = .ok (.lconst 1, 1) := by decide +kernel
