theorem ze_JA_fill_0 : decode zb_JA_fill 0 = .ok (.iconst 0, 1) := by decide +kernel
theorem ze_JA_fill_1 : decode zb_JA_fill 1 = .ok (.istore_n 2, 1) := by decide +kernel
theorem ze_JA_fill_2 : decode zb_JA_fill 2 = .ok (.aload_n 0, 1) := by decide +kernel
theorem ze_JA_fill_3 : decode zb_JA_fill 3 = .ok (.arraylength, 1) := by decide +kernel
theorem ze_JA_fill_4 : decode zb_JA_fill 4 = .ok (.istore_n 3, 1) := by decide +kernel
theorem ze_JA_fill_5 : decode zb_JA_fill 5 = .ok (.iload_n 2, 1) := by decide +kernel
theorem ze_JA_fill_6 : decode zb_JA_fill 6 = .ok (.iload_n 3, 1) := by decide +kernel
theorem ze_JA_fill_7 : decode zb_JA_fill 7 = .ok (.if_icmp .ge 13, 3) := by decide +kernel
theorem ze_JA_fill_10 : decode zb_JA_fill 10 = .ok (.aload_n 0, 1) := by decide +kernel
theorem ze_JA_fill_11 : decode zb_JA_fill 11 = .ok (.iload_n 2, 1) := by decide +kernel
theorem ze_JA_fill_12 : decode zb_JA_fill 12 = .ok (.iload_n 1, 1) := by decide +kernel
theorem ze_JA_fill_13 : decode zb_JA_fill 13 = .ok (.iastore, 1) := by decide +kernel
theorem ze_JA_fill_14 : decode zb_JA_fill 14 = .ok (.iinc 2 1, 3) := by decide +kernel
theorem ze_JA_fill_17 : decode zb_JA_fill 17 = .ok (.goto (-12), 3) := by decide +kernel
theorem ze_JA_fill_20 : decode zb_JA_fill 20 = .ok (.return_, 1) := by decide +kernel
theorem ze_JL_bitCount_0 : decode zb_JL_bitCount 0 = .ok (.lload_n 0, 1) := by decide +kernel
theorem ze_JL_bitCount_1 : decode zb_JL_bitCount 1 = .ok (.lload_n 0, 1) := by decide +kernel
theorem ze_JL_bitCount_2 : decode zb_JL_bitCount 2 = .ok (.iconst 1, 1) := by decide +kernel
theorem ze_JL_bitCount_3 : decode zb_JL_bitCount 3 = .ok (.lushr, 1) := by decide +kernel
theorem ze_JL_bitCount_4 : decode zb_JL_bitCount 4 = .ok (.ldc2_w 314, 3) := by decide +kernel
theorem ze_JL_bitCount_7 : decode zb_JL_bitCount 7 = .ok (.land, 1) := by decide +kernel
theorem ze_JL_bitCount_8 : decode zb_JL_bitCount 8 = .ok (.lsub, 1) := by decide +kernel
theorem ze_JL_bitCount_9 : decode zb_JL_bitCount 9 = .ok (.lstore_n 0, 1) := by decide +kernel
theorem ze_JL_bitCount_10 : decode zb_JL_bitCount 10 = .ok (.lload_n 0, 1) := by decide +kernel
theorem ze_JL_bitCount_11 : decode zb_JL_bitCount 11 = .ok (.ldc2_w 316, 3) := by decide +kernel
theorem ze_JL_bitCount_14 : decode zb_JL_bitCount 14 = .ok (.land, 1) := by decide +kernel
theorem ze_JL_bitCount_15 : decode zb_JL_bitCount 15 = .ok (.lload_n 0, 1) := by decide +kernel
theorem ze_JL_bitCount_16 : decode zb_JL_bitCount 16 = .ok (.iconst 2, 1) := by decide +kernel
theorem ze_JL_bitCount_17 : decode zb_JL_bitCount 17 = .ok (.lushr, 1) := by decide +kernel
theorem ze_JL_bitCount_18 : decode zb_JL_bitCount 18 = .ok (.ldc2_w 316, 3) := by decide +kernel
theorem ze_JL_bitCount_21 : decode zb_JL_bitCount 21 = .ok (.land, 1) := by decide +kernel
theorem ze_JL_bitCount_22 : decode zb_JL_bitCount 22 = .ok (.ladd, 1) := by decide +kernel
theorem ze_JL_bitCount_23 : decode zb_JL_bitCount 23 = .ok (.lstore_n 0, 1) := by decide +kernel
theorem ze_JL_bitCount_24 : decode zb_JL_bitCount 24 = .ok (.lload_n 0, 1) := by decide +kernel
theorem ze_JL_bitCount_25 : decode zb_JL_bitCount 25 = .ok (.lload_n 0, 1) := by decide +kernel
theorem ze_JL_bitCount_26 : decode zb_JL_bitCount 26 = .ok (.iconst 4, 1) := by decide +kernel
theorem ze_JL_bitCount_27 : decode zb_JL_bitCount 27 = .ok (.lushr, 1) := by decide +kernel
theorem ze_JL_bitCount_28 : decode zb_JL_bitCount 28 = .ok (.ladd, 1) := by decide +kernel
theorem ze_JL_bitCount_29 : decode zb_JL_bitCount 29 = .ok (.ldc2_w 318, 3) := by decide +kernel
theorem ze_JL_bitCount_32 : decode zb_JL_bitCount 32 = .ok (.land, 1) := by decide +kernel
theorem ze_JL_bitCount_33 : decode zb_JL_bitCount 33 = .ok (.lstore_n 0, 1) := by decide +kernel
theorem ze_JL_bitCount_34 : decode zb_JL_bitCount 34 = .ok (.lload_n 0, 1) := by decide +kernel
theorem ze_JL_bitCount_35 : decode zb_JL_bitCount 35 = .ok (.lload_n 0, 1) := by decide +kernel
theorem ze_JL_bitCount_36 : decode zb_JL_bitCount 36 = .ok (.bipush 8, 2) := by decide +kernel
theorem ze_JL_bitCount_38 : decode zb_JL_bitCount 38 = .ok (.lushr, 1) := by decide +kernel
theorem ze_JL_bitCount_39 : decode zb_JL_bitCount 39 = .ok (.ladd, 1) := by decide +kernel
theorem ze_JL_bitCount_40 : decode zb_JL_bitCount 40 = .ok (.lstore_n 0, 1) := by decide +kernel
theorem ze_JL_bitCount_41 : decode zb_JL_bitCount 41 = .ok (.lload_n 0, 1) := by decide +kernel
theorem ze_JL_bitCount_42 : decode zb_JL_bitCount 42 = .ok (.lload_n 0, 1) := by decide +kernel
theorem ze_JL_bitCount_43 : decode zb_JL_bitCount 43 = .ok (.bipush 16, 2) := by decide +kernel
theorem ze_JL_bitCount_45 : decode zb_JL_bitCount 45 = .ok (.lushr, 1) := by decide +kernel
theorem ze_JL_bitCount_46 : decode zb_JL_bitCount 46 = .ok (.ladd, 1) := by decide +kernel
theorem ze_JL_bitCount_47 : decode zb_JL_bitCount 47 = .ok (.lstore_n 0, 1) := by decide +kernel
theorem ze_JL_bitCount_48 : decode zb_JL_bitCount 48 = .ok (.lload_n 0, 1) := by decide +kernel
theorem ze_JL_bitCount_49 : decode zb_JL_bitCount 49 = .ok (.lload_n 0, 1) := by decide +kernel
theorem ze_JL_bitCount_50 : decode zb_JL_bitCount 50 = .ok (.bipush 32, 2) := by decide +kernel
theorem ze_JL_bitCount_52 : decode zb_JL_bitCount 52 = .ok (.lushr, 1) := by decide +kernel
theorem ze_JL_bitCount_53 : decode zb_JL_bitCount 53 = .ok (.ladd, 1) := by decide +kernel
theorem ze_JL_bitCount_54 : decode zb_JL_bitCount 54 = .ok (.lstore_n 0, 1) := by decide +kernel
theorem ze_JL_bitCount_55 : decode zb_JL_bitCount 55 = .ok (.lload_n 0, 1) := by decide +kernel
theorem ze_JL_bitCount_56 : decode zb_JL_bitCount 56 = .ok (.l2i, 1) := by decide +kernel
theorem ze_JL_bitCount_57 : decode zb_JL_bitCount 57 = .ok (.bipush 127, 2) := by decide +kernel
theorem ze_JL_bitCount_59 : decode zb_JL_bitCount 59 = .ok (.iand, 1) := by decide +kernel
theorem ze_JL_bitCount_60 : decode zb_JL_bitCount 60 = .ok (.ireturn, 1) := by decide +kernel
theorem ze_N_write_0 : decode zb_N_write 0 = .ok (.aload_n 0, 1) := by decide +kernel
theorem ze_N_write_1 : decode zb_N_write 1 = .ok (.getfield 10, 3) := by decide +kernel
theorem ze_N_write_4 : decode zb_N_write 4 = .ok (.lload_n 1, 1) := by decide +kernel
theorem ze_N_write_5 : decode zb_N_write 5 = .ok (.invokevirtual 44, 3) := by decide +kernel
theorem ze_N_write_8 : decode zb_N_write 8 = .ok (.ireturn, 1) := by decide +kernel
theorem ze_N_wipe_0 : decode zb_N_wipe 0 = .ok (.aload_n 0, 1) := by decide +kernel
theorem ze_N_wipe_1 : decode zb_N_wipe 1 = .ok (.getfield 10, 3) := by decide +kernel
theorem ze_N_wipe_4 : decode zb_N_wipe 4 = .ok (.invokevirtual 48, 3) := by decide +kernel
theorem ze_N_wipe_7 : decode zb_N_wipe 7 = .ok (.return_, 1) := by decide +kernel
theorem ze_N_load_0 : decode zb_N_load 0 = .ok (.aload_n 0, 1) := by decide +kernel
theorem ze_N_load_1 : decode zb_N_load 1 = .ok (.getfield 10, 3) := by decide +kernel
theorem ze_N_load_4 : decode zb_N_load 4 = .ok (.invokevirtual 51, 3) := by decide +kernel
theorem ze_N_load_7 : decode zb_N_load 7 = .ok (.istore_n 1, 1) := by decide +kernel
theorem ze_N_load_8 : decode zb_N_load 8 = .ok (.iload_n 1, 1) := by decide +kernel
theorem ze_N_load_9 : decode zb_N_load 9 = .ok (.ifCond .eq 6, 3) := by decide +kernel
theorem ze_N_load_12 : decode zb_N_load 12 = .ok (.iload_n 1, 1) := by decide +kernel
theorem ze_N_load_13 : decode zb_N_load 13 = .ok (.ineg, 1) := by decide +kernel
theorem ze_N_load_14 : decode zb_N_load 14 = .ok (.ireturn, 1) := by decide +kernel
theorem ze_N_load_15 : decode zb_N_load 15 = .ok (.aload_n 0, 1) := by decide +kernel
theorem ze_N_load_16 : decode zb_N_load 16 = .ok (.getfield 19, 3) := by decide +kernel
theorem ze_N_load_19 : decode zb_N_load 19 = .ok (.aload_n 0, 1) := by decide +kernel
theorem ze_N_load_20 : decode zb_N_load 20 = .ok (.getfield 10, 3) := by decide +kernel
theorem ze_N_load_23 : decode zb_N_load 23 = .ok (.invokevirtual 55, 3) := by decide +kernel
theorem ze_N_load_26 : decode zb_N_load 26 = .ok (.aload_n 0, 1) := by decide +kernel
theorem ze_N_load_27 : decode zb_N_load 27 = .ok (.getfield 26, 3) := by decide +kernel
theorem ze_N_load_30 : decode zb_N_load 30 = .ok (.invokevirtual 59, 3) := by decide +kernel
theorem ze_N_load_33 : decode zb_N_load 33 = .ok (.aload_n 0, 1) := by decide +kernel
theorem ze_N_load_34 : decode zb_N_load 34 = .ok (.getfield 19, 3) := by decide +kernel
theorem ze_N_load_37 : decode zb_N_load 37 = .ok (.getfield 62, 3) := by decide +kernel
theorem ze_N_load_40 : decode zb_N_load 40 = .ok (.ireturn, 1) := by decide +kernel
theorem ze_N_genes_0 : decode zb_N_genes 0 = .ok (.aload_n 0, 1) := by decide +kernel
theorem ze_N_genes_1 : decode zb_N_genes 1 = .ok (.getfield 19, 3) := by decide +kernel
theorem ze_N_genes_4 : decode zb_N_genes 4 = .ok (.getfield 62, 3) := by decide +kernel
theorem ze_N_genes_7 : decode zb_N_genes 7 = .ok (.ireturn, 1) := by decide +kernel
theorem ze_N_gene_0 : decode zb_N_gene 0 = .ok (.iload_n 1, 1) := by decide +kernel
theorem ze_N_gene_1 : decode zb_N_gene 1 = .ok (.aload_n 0, 1) := by decide +kernel
theorem ze_N_gene_2 : decode zb_N_gene 2 = .ok (.getfield 19, 3) := by decide +kernel
theorem ze_N_gene_5 : decode zb_N_gene 5 = .ok (.getfield 66, 3) := by decide +kernel
theorem ze_N_gene_8 : decode zb_N_gene 8 = .ok (.aload_n 0, 1) := by decide +kernel
theorem ze_N_gene_9 : decode zb_N_gene 9 = .ok (.getfield 19, 3) := by decide +kernel
theorem ze_N_gene_12 : decode zb_N_gene 12 = .ok (.getfield 62, 3) := by decide +kernel
theorem ze_N_gene_15 : decode zb_N_gene 15 = .ok (.invokestatic 70, 3) := by decide +kernel
theorem ze_N_gene_18 : decode zb_N_gene 18 = .ok (.ireturn, 1) := by decide +kernel
theorem ze_N_fix_0 : decode zb_N_fix 0 = .ok (.aload_n 0, 1) := by decide +kernel
theorem ze_N_fix_1 : decode zb_N_fix 1 = .ok (.getfield 19, 3) := by decide +kernel
theorem ze_N_fix_4 : decode zb_N_fix 4 = .ok (.iload_n 1, 1) := by decide +kernel
theorem ze_N_fix_5 : decode zb_N_fix 5 = .ok (.invokevirtual 74, 3) := by decide +kernel
theorem ze_N_fix_8 : decode zb_N_fix 8 = .ok (.ifCond .eq 12, 3) := by decide +kernel
theorem ze_N_fix_11 : decode zb_N_fix 11 = .ok (.iload_n 2, 1) := by decide +kernel
theorem ze_N_fix_12 : decode zb_N_fix 12 = .ok (.ifCond .lt 8, 3) := by decide +kernel
theorem ze_N_fix_15 : decode zb_N_fix 15 = .ok (.iload_n 2, 1) := by decide +kernel
theorem ze_N_fix_16 : decode zb_N_fix 16 = .ok (.iconst 2, 1) := by decide +kernel
theorem ze_N_fix_17 : decode zb_N_fix 17 = .ok (.if_icmp .le 5, 3) := by decide +kernel
theorem ze_N_fix_20 : decode zb_N_fix 20 = .ok (.iconst 0, 1) := by decide +kernel
theorem ze_N_fix_21 : decode zb_N_fix 21 = .ok (.ireturn, 1) := by decide +kernel
theorem ze_N_fix_22 : decode zb_N_fix 22 = .ok (.aload_n 0, 1) := by decide +kernel
theorem ze_N_fix_23 : decode zb_N_fix 23 = .ok (.getfield 19, 3) := by decide +kernel
theorem ze_N_fix_26 : decode zb_N_fix 26 = .ok (.getfield 78, 3) := by decide +kernel
theorem ze_N_fix_29 : decode zb_N_fix 29 = .ok (.iload_n 1, 1) := by decide +kernel
theorem ze_N_fix_30 : decode zb_N_fix 30 = .ok (.iload_n 2, 1) := by decide +kernel
theorem ze_N_fix_31 : decode zb_N_fix 31 = .ok (.iastore, 1) := by decide +kernel
theorem ze_N_fix_32 : decode zb_N_fix 32 = .ok (.aload_n 0, 1) := by decide +kernel
theorem ze_N_fix_33 : decode zb_N_fix 33 = .ok (.getfield 26, 3) := by decide +kernel
theorem ze_N_fix_36 : decode zb_N_fix 36 = .ok (.invokevirtual 59, 3) := by decide +kernel
theorem ze_N_fix_39 : decode zb_N_fix 39 = .ok (.iconst 1, 1) := by decide +kernel
theorem ze_N_fix_40 : decode zb_N_fix 40 = .ok (.ireturn, 1) := by decide +kernel
theorem ze_N_value_0 : decode zb_N_value 0 = .ok (.aload_n 0, 1) := by decide +kernel
theorem ze_N_value_1 : decode zb_N_value 1 = .ok (.getfield 19, 3) := by decide +kernel
theorem ze_N_value_4 : decode zb_N_value 4 = .ok (.iload_n 1, 1) := by decide +kernel
theorem ze_N_value_5 : decode zb_N_value 5 = .ok (.invokevirtual 74, 3) := by decide +kernel
theorem ze_N_value_8 : decode zb_N_value 8 = .ok (.ifCond .eq 26, 3) := by decide +kernel
theorem ze_N_value_11 : decode zb_N_value 11 = .ok (.aload_n 0, 1) := by decide +kernel
theorem ze_N_value_12 : decode zb_N_value 12 = .ok (.getfield 19, 3) := by decide +kernel
theorem ze_N_value_15 : decode zb_N_value 15 = .ok (.iload_n 2, 1) := by decide +kernel
theorem ze_N_value_16 : decode zb_N_value 16 = .ok (.invokevirtual 82, 3) := by decide +kernel
theorem ze_N_value_19 : decode zb_N_value 19 = .ok (.ifCond .eq 15, 3) := by decide +kernel
theorem ze_N_value_22 : decode zb_N_value 22 = .ok (.aload_n 0, 1) := by decide +kernel
theorem ze_N_value_23 : decode zb_N_value 23 = .ok (.getfield 19, 3) := by decide +kernel
theorem ze_N_value_26 : decode zb_N_value 26 = .ok (.iload_n 1, 1) := by decide +kernel
theorem ze_N_value_27 : decode zb_N_value 27 = .ok (.iload_n 2, 1) := by decide +kernel
theorem ze_N_value_28 : decode zb_N_value 28 = .ok (.invokevirtual 85, 3) := by decide +kernel
theorem ze_N_value_31 : decode zb_N_value 31 = .ok (.goto 4, 3) := by decide +kernel
theorem ze_N_value_34 : decode zb_N_value 34 = .ok (.iconst (-1), 1) := by decide +kernel
theorem ze_N_value_35 : decode zb_N_value 35 = .ok (.ireturn, 1) := by decide +kernel
theorem ze_N_next_0 : decode zb_N_next 0 = .ok (.aload_n 0, 1) := by decide +kernel
theorem ze_N_next_1 : decode zb_N_next 1 = .ok (.getfield 19, 3) := by decide +kernel
theorem ze_N_next_4 : decode zb_N_next 4 = .ok (.iload_n 1, 1) := by decide +kernel
theorem ze_N_next_5 : decode zb_N_next 5 = .ok (.invokevirtual 82, 3) := by decide +kernel
theorem ze_N_next_8 : decode zb_N_next 8 = .ok (.ifCond .eq 14, 3) := by decide +kernel
theorem ze_N_next_11 : decode zb_N_next 11 = .ok (.aload_n 0, 1) := by decide +kernel
theorem ze_N_next_12 : decode zb_N_next 12 = .ok (.getfield 19, 3) := by decide +kernel
theorem ze_N_next_15 : decode zb_N_next 15 = .ok (.iload_n 1, 1) := by decide +kernel
theorem ze_N_next_16 : decode zb_N_next 16 = .ok (.invokevirtual 89, 3) := by decide +kernel
theorem ze_N_next_19 : decode zb_N_next 19 = .ok (.goto 4, 3) := by decide +kernel
theorem ze_N_next_22 : decode zb_N_next 22 = .ok (.iconst (-1), 1) := by decide +kernel
theorem ze_N_next_23 : decode zb_N_next 23 = .ok (.ireturn, 1) := by decide +kernel
theorem ze_N_spread_0 : decode zb_N_spread 0 = .ok (.aload_n 0, 1) := by decide +kernel
theorem ze_N_spread_1 : decode zb_N_spread 1 = .ok (.getfield 19, 3) := by decide +kernel
theorem ze_N_spread_4 : decode zb_N_spread 4 = .ok (.iload_n 1, 1) := by decide +kernel
theorem ze_N_spread_5 : decode zb_N_spread 5 = .ok (.invokevirtual 74, 3) := by decide +kernel
theorem ze_N_spread_8 : decode zb_N_spread 8 = .ok (.ifCond .eq 18, 3) := by decide +kernel
theorem ze_N_spread_11 : decode zb_N_spread 11 = .ok (.aload_n 0, 1) := by decide +kernel
theorem ze_N_spread_12 : decode zb_N_spread 12 = .ok (.getfield 33, 3) := by decide +kernel
theorem ze_N_spread_15 : decode zb_N_spread 15 = .ok (.aload_n 0, 1) := by decide +kernel
theorem ze_N_spread_16 : decode zb_N_spread 16 = .ok (.getfield 19, 3) := by decide +kernel
theorem ze_N_spread_19 : decode zb_N_spread 19 = .ok (.iload_n 1, 1) := by decide +kernel
theorem ze_N_spread_20 : decode zb_N_spread 20 = .ok (.invokevirtual 93, 3) := by decide +kernel
theorem ze_N_spread_23 : decode zb_N_spread 23 = .ok (.goto 4, 3) := by decide +kernel
theorem ze_N_spread_26 : decode zb_N_spread 26 = .ok (.iconst (-1), 1) := by decide +kernel
theorem ze_N_spread_27 : decode zb_N_spread 27 = .ok (.ireturn, 1) := by decide +kernel
theorem ze_N_analyse_0 : decode zb_N_analyse 0 = .ok (.aload_n 0, 1) := by decide +kernel
theorem ze_N_analyse_1 : decode zb_N_analyse 1 = .ok (.getfield 19, 3) := by decide +kernel
theorem ze_N_analyse_4 : decode zb_N_analyse 4 = .ok (.getfield 62, 3) := by decide +kernel
theorem ze_N_analyse_7 : decode zb_N_analyse 7 = .ok (.ifCond .ne 5, 3) := by decide +kernel
theorem ze_N_analyse_10 : decode zb_N_analyse 10 = .ok (.iconst (-1), 1) := by decide +kernel
theorem ze_N_analyse_11 : decode zb_N_analyse 11 = .ok (.ireturn, 1) := by decide +kernel
theorem ze_N_analyse_12 : decode zb_N_analyse 12 = .ok (.aload_n 0, 1) := by decide +kernel
theorem ze_N_analyse_13 : decode zb_N_analyse 13 = .ok (.getfield 26, 3) := by decide +kernel
theorem ze_N_analyse_16 : decode zb_N_analyse 16 = .ok (.aload_n 0, 1) := by decide +kernel
theorem ze_N_analyse_17 : decode zb_N_analyse 17 = .ok (.getfield 19, 3) := by decide +kernel
theorem ze_N_analyse_20 : decode zb_N_analyse 20 = .ok (.iload_n 1, 1) := by decide +kernel
theorem ze_N_analyse_21 : decode zb_N_analyse 21 = .ok (.invokevirtual 97, 3) := by decide +kernel
theorem ze_N_analyse_24 : decode zb_N_analyse 24 = .ok (.aload_n 0, 1) := by decide +kernel
theorem ze_N_analyse_25 : decode zb_N_analyse 25 = .ok (.getfield 26, 3) := by decide +kernel
theorem ze_N_analyse_28 : decode zb_N_analyse 28 = .ok (.getfield 101, 3) := by decide +kernel
theorem ze_N_analyse_31 : decode zb_N_analyse 31 = .ok (.ireturn, 1) := by decide +kernel
theorem ze_N_size_0 : decode zb_N_size 0 = .ok (.aload_n 0, 1) := by decide +kernel
theorem ze_N_size_1 : decode zb_N_size 1 = .ok (.getfield 26, 3) := by decide +kernel
theorem ze_N_size_4 : decode zb_N_size 4 = .ok (.iload_n 1, 1) := by decide +kernel
theorem ze_N_size_5 : decode zb_N_size 5 = .ok (.invokevirtual 102, 3) := by decide +kernel
theorem ze_N_size_8 : decode zb_N_size 8 = .ok (.ifCond .eq 14, 3) := by decide +kernel
theorem ze_N_size_11 : decode zb_N_size 11 = .ok (.aload_n 0, 1) := by decide +kernel
theorem ze_N_size_12 : decode zb_N_size 12 = .ok (.getfield 26, 3) := by decide +kernel
theorem ze_N_size_15 : decode zb_N_size 15 = .ok (.iload_n 1, 1) := by decide +kernel
theorem ze_N_size_16 : decode zb_N_size 16 = .ok (.invokevirtual 105, 3) := by decide +kernel
theorem ze_N_size_19 : decode zb_N_size 19 = .ok (.goto 4, 3) := by decide +kernel
theorem ze_N_size_22 : decode zb_N_size 22 = .ok (.iconst 0, 1) := by decide +kernel
theorem ze_N_size_23 : decode zb_N_size 23 = .ok (.ireturn, 1) := by decide +kernel
theorem ze_N_least_0 : decode zb_N_least 0 = .ok (.aload_n 0, 1) := by decide +kernel
theorem ze_N_least_1 : decode zb_N_least 1 = .ok (.getfield 26, 3) := by decide +kernel
theorem ze_N_least_4 : decode zb_N_least 4 = .ok (.iload_n 1, 1) := by decide +kernel
theorem ze_N_least_5 : decode zb_N_least 5 = .ok (.invokevirtual 102, 3) := by decide +kernel
theorem ze_N_least_8 : decode zb_N_least 8 = .ok (.ifCond .eq 15, 3) := by decide +kernel
theorem ze_N_least_11 : decode zb_N_least 11 = .ok (.aload_n 0, 1) := by decide +kernel
theorem ze_N_least_12 : decode zb_N_least 12 = .ok (.getfield 26, 3) := by decide +kernel
theorem ze_N_least_15 : decode zb_N_least 15 = .ok (.getfield 108, 3) := by decide +kernel
theorem ze_N_least_18 : decode zb_N_least 18 = .ok (.iload_n 1, 1) := by decide +kernel
theorem ze_N_least_19 : decode zb_N_least 19 = .ok (.iaload, 1) := by decide +kernel
theorem ze_N_least_20 : decode zb_N_least 20 = .ok (.goto 4, 3) := by decide +kernel
theorem ze_N_least_23 : decode zb_N_least 23 = .ok (.iconst (-1), 1) := by decide +kernel
theorem ze_N_least_24 : decode zb_N_least 24 = .ok (.ireturn, 1) := by decide +kernel
theorem ze_N_attractor_0 : decode zb_N_attractor 0 = .ok (.aload_n 0, 1) := by decide +kernel
theorem ze_N_attractor_1 : decode zb_N_attractor 1 = .ok (.getfield 26, 3) := by decide +kernel
theorem ze_N_attractor_4 : decode zb_N_attractor 4 = .ok (.iload_n 1, 1) := by decide +kernel
theorem ze_N_attractor_5 : decode zb_N_attractor 5 = .ok (.invokevirtual 111, 3) := by decide +kernel
theorem ze_N_attractor_8 : decode zb_N_attractor 8 = .ok (.ifCond .eq 15, 3) := by decide +kernel
theorem ze_N_attractor_11 : decode zb_N_attractor 11 = .ok (.aload_n 0, 1) := by decide +kernel
theorem ze_N_attractor_12 : decode zb_N_attractor 12 = .ok (.getfield 26, 3) := by decide +kernel
theorem ze_N_attractor_15 : decode zb_N_attractor 15 = .ok (.getfield 112, 3) := by decide +kernel
theorem ze_N_attractor_18 : decode zb_N_attractor 18 = .ok (.iload_n 1, 1) := by decide +kernel
theorem ze_N_attractor_19 : decode zb_N_attractor 19 = .ok (.iaload, 1) := by decide +kernel
theorem ze_N_attractor_20 : decode zb_N_attractor 20 = .ok (.goto 4, 3) := by decide +kernel
theorem ze_N_attractor_23 : decode zb_N_attractor 23 = .ok (.iconst (-1), 1) := by decide +kernel
theorem ze_N_attractor_24 : decode zb_N_attractor 24 = .ok (.ireturn, 1) := by decide +kernel
theorem ze_N_basin_0 : decode zb_N_basin 0 = .ok (.aload_n 0, 1) := by decide +kernel
theorem ze_N_basin_1 : decode zb_N_basin 1 = .ok (.getfield 26, 3) := by decide +kernel
theorem ze_N_basin_4 : decode zb_N_basin 4 = .ok (.iload_n 1, 1) := by decide +kernel
theorem ze_N_basin_5 : decode zb_N_basin 5 = .ok (.invokevirtual 102, 3) := by decide +kernel
theorem ze_N_basin_8 : decode zb_N_basin 8 = .ok (.ifCond .eq 14, 3) := by decide +kernel
theorem ze_N_basin_11 : decode zb_N_basin 11 = .ok (.aload_n 0, 1) := by decide +kernel
theorem ze_N_basin_12 : decode zb_N_basin 12 = .ok (.getfield 26, 3) := by decide +kernel
theorem ze_N_basin_15 : decode zb_N_basin 15 = .ok (.iload_n 1, 1) := by decide +kernel
theorem ze_N_basin_16 : decode zb_N_basin 16 = .ok (.invokevirtual 115, 3) := by decide +kernel
theorem ze_N_basin_19 : decode zb_N_basin 19 = .ok (.goto 4, 3) := by decide +kernel
theorem ze_N_basin_22 : decode zb_N_basin 22 = .ok (.iconst 0, 1) := by decide +kernel
theorem ze_N_basin_23 : decode zb_N_basin 23 = .ok (.ireturn, 1) := by decide +kernel
theorem ze_N_only_0 : decode zb_N_only 0 = .ok (.aload_n 0, 1) := by decide +kernel
theorem ze_N_only_1 : decode zb_N_only 1 = .ok (.getfield 26, 3) := by decide +kernel
theorem ze_N_only_4 : decode zb_N_only 4 = .ok (.iload_n 1, 1) := by decide +kernel
theorem ze_N_only_5 : decode zb_N_only 5 = .ok (.invokevirtual 102, 3) := by decide +kernel
theorem ze_N_only_8 : decode zb_N_only 8 = .ok (.ifCond .eq 14, 3) := by decide +kernel
theorem ze_N_only_11 : decode zb_N_only 11 = .ok (.aload_n 0, 1) := by decide +kernel
theorem ze_N_only_12 : decode zb_N_only 12 = .ok (.getfield 26, 3) := by decide +kernel
theorem ze_N_only_15 : decode zb_N_only 15 = .ok (.iload_n 1, 1) := by decide +kernel
theorem ze_N_only_16 : decode zb_N_only 16 = .ok (.invokevirtual 118, 3) := by decide +kernel
theorem ze_N_only_19 : decode zb_N_only 19 = .ok (.goto 4, 3) := by decide +kernel
theorem ze_N_only_22 : decode zb_N_only 22 = .ok (.iconst 0, 1) := by decide +kernel
theorem ze_N_only_23 : decode zb_N_only 23 = .ok (.ireturn, 1) := by decide +kernel
theorem ze_N_cubes_0 : decode zb_N_cubes 0 = .ok (.aload_n 0, 1) := by decide +kernel
theorem ze_N_cubes_1 : decode zb_N_cubes 1 = .ok (.iload_n 1, 1) := by decide +kernel
theorem ze_N_cubes_2 : decode zb_N_cubes 2 = .ok (.invokevirtual 121, 3) := by decide +kernel
theorem ze_N_cubes_5 : decode zb_N_cubes 5 = .ok (.aload_n 0, 1) := by decide +kernel
theorem ze_N_cubes_6 : decode zb_N_cubes 6 = .ok (.getfield 40, 3) := by decide +kernel
theorem ze_N_cubes_9 : decode zb_N_cubes 9 = .ok (.getfield 125, 3) := by decide +kernel
theorem ze_N_cubes_12 : decode zb_N_cubes 12 = .ok (.ireturn, 1) := by decide +kernel
theorem ze_N_cube_0 : decode zb_N_cube 0 = .ok (.aload_n 0, 1) := by decide +kernel
theorem ze_N_cube_1 : decode zb_N_cube 1 = .ok (.iload_n 1, 1) := by decide +kernel
theorem ze_N_cube_2 : decode zb_N_cube 2 = .ok (.invokevirtual 121, 3) := by decide +kernel
theorem ze_N_cube_5 : decode zb_N_cube 5 = .ok (.iload_n 2, 1) := by decide +kernel
theorem ze_N_cube_6 : decode zb_N_cube 6 = .ok (.ifCond .lt 26, 3) := by decide +kernel
theorem ze_N_cube_9 : decode zb_N_cube 9 = .ok (.iload_n 2, 1) := by decide +kernel
theorem ze_N_cube_10 : decode zb_N_cube 10 = .ok (.aload_n 0, 1) := by decide +kernel
theorem ze_N_cube_11 : decode zb_N_cube 11 = .ok (.getfield 40, 3) := by decide +kernel
theorem ze_N_cube_14 : decode zb_N_cube 14 = .ok (.getfield 125, 3) := by decide +kernel
theorem ze_N_cube_17 : decode zb_N_cube 17 = .ok (.if_icmp .ge 15, 3) := by decide +kernel
theorem ze_N_cube_20 : decode zb_N_cube 20 = .ok (.aload_n 0, 1) := by decide +kernel
theorem ze_N_cube_21 : decode zb_N_cube 21 = .ok (.getfield 40, 3) := by decide +kernel
theorem ze_N_cube_24 : decode zb_N_cube 24 = .ok (.getfield 126, 3) := by decide +kernel
theorem ze_N_cube_27 : decode zb_N_cube 27 = .ok (.iload_n 2, 1) := by decide +kernel
theorem ze_N_cube_28 : decode zb_N_cube 28 = .ok (.iaload, 1) := by decide +kernel
theorem ze_N_cube_29 : decode zb_N_cube 29 = .ok (.goto 4, 3) := by decide +kernel
theorem ze_N_cube_32 : decode zb_N_cube 32 = .ok (.iconst (-1), 1) := by decide +kernel
theorem ze_N_cube_33 : decode zb_N_cube 33 = .ok (.ireturn, 1) := by decide +kernel
theorem ze_N_makeCubes_0 : decode zb_N_makeCubes 0 = .ok (.aload_n 0, 1) := by decide +kernel
theorem ze_N_makeCubes_1 : decode zb_N_makeCubes 1 = .ok (.getfield 26, 3) := by decide +kernel
theorem ze_N_makeCubes_4 : decode zb_N_makeCubes 4 = .ok (.iload_n 1, 1) := by decide +kernel
theorem ze_N_makeCubes_5 : decode zb_N_makeCubes 5 = .ok (.invokevirtual 102, 3) := by decide +kernel
theorem ze_N_makeCubes_8 : decode zb_N_makeCubes 8 = .ok (.ifCond .eq 48, 3) := by decide +kernel
theorem ze_N_makeCubes_11 : decode zb_N_makeCubes 11 = .ok (.aload_n 0, 1) := by decide +kernel
theorem ze_N_makeCubes_12 : decode zb_N_makeCubes 12 = .ok (.getfield 26, 3) := by decide +kernel
theorem ze_N_makeCubes_15 : decode zb_N_makeCubes 15 = .ok (.getfield 108, 3) := by decide +kernel
theorem ze_N_makeCubes_18 : decode zb_N_makeCubes 18 = .ok (.iload_n 1, 1) := by decide +kernel
theorem ze_N_makeCubes_19 : decode zb_N_makeCubes 19 = .ok (.iaload, 1) := by decide +kernel
theorem ze_N_makeCubes_20 : decode zb_N_makeCubes 20 = .ok (.istore_n 2, 1) := by decide +kernel
theorem ze_N_makeCubes_21 : decode zb_N_makeCubes 21 = .ok (.aload_n 0, 1) := by decide +kernel
theorem ze_N_makeCubes_22 : decode zb_N_makeCubes 22 = .ok (.getfield 40, 3) := by decide +kernel
theorem ze_N_makeCubes_25 : decode zb_N_makeCubes 25 = .ok (.aload_n 0, 1) := by decide +kernel
theorem ze_N_makeCubes_26 : decode zb_N_makeCubes 26 = .ok (.getfield 26, 3) := by decide +kernel
theorem ze_N_makeCubes_29 : decode zb_N_makeCubes 29 = .ok (.getfield 129, 3) := by decide +kernel
theorem ze_N_makeCubes_32 : decode zb_N_makeCubes 32 = .ok (.aload_n 0, 1) := by decide +kernel
theorem ze_N_makeCubes_33 : decode zb_N_makeCubes 33 = .ok (.getfield 26, 3) := by decide +kernel
theorem ze_N_makeCubes_36 : decode zb_N_makeCubes 36 = .ok (.getfield 132, 3) := by decide +kernel
theorem ze_N_makeCubes_39 : decode zb_N_makeCubes 39 = .ok (.iload_n 2, 1) := by decide +kernel
theorem ze_N_makeCubes_40 : decode zb_N_makeCubes 40 = .ok (.laload, 1) := by decide +kernel
theorem ze_N_makeCubes_41 : decode zb_N_makeCubes 41 = .ok (.aload_n 0, 1) := by decide +kernel
theorem ze_N_makeCubes_42 : decode zb_N_makeCubes 42 = .ok (.getfield 26, 3) := by decide +kernel
theorem ze_N_makeCubes_45 : decode zb_N_makeCubes 45 = .ok (.getfield 136, 3) := by decide +kernel
theorem ze_N_makeCubes_48 : decode zb_N_makeCubes 48 = .ok (.iload_n 2, 1) := by decide +kernel
theorem ze_N_makeCubes_49 : decode zb_N_makeCubes 49 = .ok (.laload, 1) := by decide +kernel
theorem ze_N_makeCubes_50 : decode zb_N_makeCubes 50 = .ok (.invokevirtual 139, 3) := by decide +kernel
theorem ze_N_makeCubes_53 : decode zb_N_makeCubes 53 = .ok (.goto 10, 3) := by decide +kernel
theorem ze_N_makeCubes_56 : decode zb_N_makeCubes 56 = .ok (.aload_n 0, 1) := by decide +kernel
theorem ze_N_makeCubes_57 : decode zb_N_makeCubes 57 = .ok (.getfield 40, 3) := by decide +kernel
theorem ze_N_makeCubes_60 : decode zb_N_makeCubes 60 = .ok (.invokevirtual 143, 3) := by decide +kernel
theorem ze_N_makeCubes_63 : decode zb_N_makeCubes 63 = .ok (.return_, 1) := by decide +kernel
theorem ze_N_indexOf_0 : decode zb_N_indexOf 0 = .ok (.iconst 0, 1) := by decide +kernel
theorem ze_N_indexOf_1 : decode zb_N_indexOf 1 = .ok (.istore_n 3, 1) := by decide +kernel
theorem ze_N_indexOf_2 : decode zb_N_indexOf 2 = .ok (.iload_n 3, 1) := by decide +kernel
theorem ze_N_indexOf_3 : decode zb_N_indexOf 3 = .ok (.iload_n 2, 1) := by decide +kernel
theorem ze_N_indexOf_4 : decode zb_N_indexOf 4 = .ok (.if_icmp .ge 18, 3) := by decide +kernel
theorem ze_N_indexOf_7 : decode zb_N_indexOf 7 = .ok (.aload_n 1, 1) := by decide +kernel
theorem ze_N_indexOf_8 : decode zb_N_indexOf 8 = .ok (.iload_n 3, 1) := by decide +kernel
theorem ze_N_indexOf_9 : decode zb_N_indexOf 9 = .ok (.caload, 1) := by decide +kernel
theorem ze_N_indexOf_10 : decode zb_N_indexOf 10 = .ok (.iload_n 0, 1) := by decide +kernel
theorem ze_N_indexOf_11 : decode zb_N_indexOf 11 = .ok (.if_icmp .ne 5, 3) := by decide +kernel
theorem ze_N_indexOf_14 : decode zb_N_indexOf 14 = .ok (.iload_n 3, 1) := by decide +kernel
theorem ze_N_indexOf_15 : decode zb_N_indexOf 15 = .ok (.ireturn, 1) := by decide +kernel
theorem ze_N_indexOf_16 : decode zb_N_indexOf 16 = .ok (.iinc 3 1, 3) := by decide +kernel
theorem ze_N_indexOf_19 : decode zb_N_indexOf 19 = .ok (.goto (-17), 3) := by decide +kernel
theorem ze_N_indexOf_22 : decode zb_N_indexOf 22 = .ok (.iconst (-1), 1) := by decide +kernel
theorem ze_N_indexOf_23 : decode zb_N_indexOf 23 = .ok (.ireturn, 1) := by decide +kernel
theorem ze_N_bitOf_0 : decode zb_N_bitOf 0 = .ok (.iload 4, 2) := by decide +kernel
theorem ze_N_bitOf_2 : decode zb_N_bitOf 2 = .ok (.bipush 64, 2) := by decide +kernel
theorem ze_N_bitOf_4 : decode zb_N_bitOf 4 = .ok (.if_icmp .ge 7, 3) := by decide +kernel
theorem ze_N_bitOf_7 : decode zb_N_bitOf 7 = .ok (.lload_n 0, 1) := by decide +kernel
theorem ze_N_bitOf_8 : decode zb_N_bitOf 8 = .ok (.goto 4, 3) := by decide +kernel
theorem ze_N_bitOf_11 : decode zb_N_bitOf 11 = .ok (.lload_n 2, 1) := by decide +kernel
theorem ze_N_bitOf_12 : decode zb_N_bitOf 12 = .ok (.iload 4, 2) := by decide +kernel
theorem ze_N_bitOf_14 : decode zb_N_bitOf 14 = .ok (.bipush 63, 2) := by decide +kernel
theorem ze_N_bitOf_16 : decode zb_N_bitOf 16 = .ok (.iand, 1) := by decide +kernel
theorem ze_N_bitOf_17 : decode zb_N_bitOf 17 = .ok (.lushr, 1) := by decide +kernel
theorem ze_N_bitOf_18 : decode zb_N_bitOf 18 = .ok (.lconst 1, 1) := by decide +kernel
theorem ze_N_bitOf_19 : decode zb_N_bitOf 19 = .ok (.land, 1) := by decide +kernel
theorem ze_N_bitOf_20 : decode zb_N_bitOf 20 = .ok (.l2i, 1) := by decide +kernel
theorem ze_N_bitOf_21 : decode zb_N_bitOf 21 = .ok (.ireturn, 1) := by decide +kernel
theorem ze_S_clear_0 : decode zb_S_clear 0 = .ok (.aload_n 0, 1) := by decide +kernel
theorem ze_S_clear_1 : decode zb_S_clear 1 = .ok (.iconst 0, 1) := by decide +kernel
theorem ze_S_clear_2 : decode zb_S_clear 2 = .ok (.putfield 28, 3) := by decide +kernel
theorem ze_S_clear_5 : decode zb_S_clear 5 = .ok (.return_, 1) := by decide +kernel
theorem ze_S_append_0 : decode zb_S_append 0 = .ok (.lload_n 1, 1) := by decide +kernel
theorem ze_S_append_1 : decode zb_S_append 1 = .ok (.invokestatic 32, 3) := by decide +kernel
theorem ze_S_append_4 : decode zb_S_append 4 = .ok (.istore_n 3, 1) := by decide +kernel
theorem ze_S_append_5 : decode zb_S_append 5 = .ok (.iload_n 3, 1) := by decide +kernel
theorem ze_S_append_6 : decode zb_S_append 6 = .ok (.iconst (-1), 1) := by decide +kernel
theorem ze_S_append_7 : decode zb_S_append 7 = .ok (.if_icmp .eq 15, 3) := by decide +kernel
theorem ze_S_append_10 : decode zb_S_append 10 = .ok (.aload_n 0, 1) := by decide +kernel
theorem ze_S_append_11 : decode zb_S_append 11 = .ok (.getfield 28, 3) := by decide +kernel
theorem ze_S_append_14 : decode zb_S_append 14 = .ok (.iload_n 3, 1) := by decide +kernel
theorem ze_S_append_15 : decode zb_S_append 15 = .ok (.iadd, 1) := by decide +kernel
theorem ze_S_append_16 : decode zb_S_append 16 = .ok (.sipush 240, 3) := by decide +kernel
theorem ze_S_append_19 : decode zb_S_append 19 = .ok (.if_icmp .le 5, 3) := by decide +kernel
theorem ze_S_append_22 : decode zb_S_append 22 = .ok (.iconst 0, 1) := by decide +kernel
theorem ze_S_append_23 : decode zb_S_append 23 = .ok (.ireturn, 1) := by decide +kernel
theorem ze_S_append_24 : decode zb_S_append 24 = .ok (.iconst 0, 1) := by decide +kernel
theorem ze_S_append_25 : decode zb_S_append 25 = .ok (.istore 4, 2) := by decide +kernel
theorem ze_S_append_27 : decode zb_S_append 27 = .ok (.iload 4, 2) := by decide +kernel
theorem ze_S_append_29 : decode zb_S_append 29 = .ok (.bipush 8, 2) := by decide +kernel
theorem ze_S_append_31 : decode zb_S_append 31 = .ok (.if_icmp .ge 43, 3) := by decide +kernel
theorem ze_S_append_34 : decode zb_S_append 34 = .ok (.lload_n 1, 1) := by decide +kernel
theorem ze_S_append_35 : decode zb_S_append 35 = .ok (.iload 4, 2) := by decide +kernel
theorem ze_S_append_37 : decode zb_S_append 37 = .ok (.invokestatic 36, 3) := by decide +kernel
theorem ze_S_append_40 : decode zb_S_append 40 = .ok (.istore 5, 2) := by decide +kernel
theorem ze_S_append_42 : decode zb_S_append 42 = .ok (.iload 5, 2) := by decide +kernel
theorem ze_S_append_44 : decode zb_S_append 44 = .ok (.ifCond .eq 24, 3) := by decide +kernel
theorem ze_S_append_47 : decode zb_S_append 47 = .ok (.aload_n 0, 1) := by decide +kernel
theorem ze_S_append_48 : decode zb_S_append 48 = .ok (.getfield 9, 3) := by decide +kernel
theorem ze_S_append_51 : decode zb_S_append 51 = .ok (.aload_n 0, 1) := by decide +kernel
theorem ze_S_append_52 : decode zb_S_append 52 = .ok (.getfield 28, 3) := by decide +kernel
theorem ze_S_append_55 : decode zb_S_append 55 = .ok (.iload 5, 2) := by decide +kernel
theorem ze_S_append_57 : decode zb_S_append 57 = .ok (.castore, 1) := by decide +kernel
theorem ze_S_append_58 : decode zb_S_append 58 = .ok (.aload_n 0, 1) := by decide +kernel
theorem ze_S_append_59 : decode zb_S_append 59 = .ok (.dup, 1) := by decide +kernel
theorem ze_S_append_60 : decode zb_S_append 60 = .ok (.getfield 28, 3) := by decide +kernel
theorem ze_S_append_63 : decode zb_S_append 63 = .ok (.iconst 1, 1) := by decide +kernel
theorem ze_S_append_64 : decode zb_S_append 64 = .ok (.iadd, 1) := by decide +kernel
theorem ze_S_append_65 : decode zb_S_append 65 = .ok (.putfield 28, 3) := by decide +kernel
theorem ze_S_append_68 : decode zb_S_append 68 = .ok (.iinc 4 1, 3) := by decide +kernel
theorem ze_S_append_71 : decode zb_S_append 71 = .ok (.goto (-44), 3) := by decide +kernel
theorem ze_S_append_74 : decode zb_S_append 74 = .ok (.iconst 1, 1) := by decide +kernel
theorem ze_S_append_75 : decode zb_S_append 75 = .ok (.ireturn, 1) := by decide +kernel
theorem ze_S_countCharacters_0 : decode zb_S_countCharacters 0 = .ok (.iconst 0, 1) := by decide +kernel
theorem ze_S_countCharacters_1 : decode zb_S_countCharacters 1 = .ok (.istore_n 2, 1) := by decide +kernel
theorem ze_S_countCharacters_2 : decode zb_S_countCharacters 2 = .ok (.iconst 0, 1) := by decide +kernel
theorem ze_S_countCharacters_3 : decode zb_S_countCharacters 3 = .ok (.istore_n 3, 1) := by decide +kernel
theorem ze_S_countCharacters_4 : decode zb_S_countCharacters 4 = .ok (.iload_n 3, 1) := by decide +kernel
theorem ze_S_countCharacters_5 : decode zb_S_countCharacters 5 = .ok (.bipush 8, 2) := by decide +kernel
theorem ze_S_countCharacters_7 : decode zb_S_countCharacters 7 = .ok (.if_icmp .ge 40, 3) := by decide +kernel
theorem ze_S_countCharacters_10 : decode zb_S_countCharacters 10 = .ok (.lload_n 0, 1) := by decide +kernel
theorem ze_S_countCharacters_11 : decode zb_S_countCharacters 11 = .ok (.iload_n 3, 1) := by decide +kernel
theorem ze_S_countCharacters_12 : decode zb_S_countCharacters 12 = .ok (.invokestatic 36, 3) := by decide +kernel
theorem ze_S_countCharacters_15 : decode zb_S_countCharacters 15 = .ok (.istore 4, 2) := by decide +kernel
theorem ze_S_countCharacters_17 : decode zb_S_countCharacters 17 = .ok (.iload 4, 2) := by decide +kernel
theorem ze_S_countCharacters_19 : decode zb_S_countCharacters 19 = .ok (.ifCond .eq 22, 3) := by decide +kernel
theorem ze_S_countCharacters_22 : decode zb_S_countCharacters 22 = .ok (.iload 4, 2) := by decide +kernel
theorem ze_S_countCharacters_24 : decode zb_S_countCharacters 24 = .ok (.bipush 32, 2) := by decide +kernel
theorem ze_S_countCharacters_26 : decode zb_S_countCharacters 26 = .ok (.if_icmp .lt 10, 3) := by decide +kernel
theorem ze_S_countCharacters_29 : decode zb_S_countCharacters 29 = .ok (.iload 4, 2) := by decide +kernel
theorem ze_S_countCharacters_31 : decode zb_S_countCharacters 31 = .ok (.bipush 126, 2) := by decide +kernel
theorem ze_S_countCharacters_33 : decode zb_S_countCharacters 33 = .ok (.if_icmp .le 5, 3) := by decide +kernel
theorem ze_S_countCharacters_36 : decode zb_S_countCharacters 36 = .ok (.iconst (-1), 1) := by decide +kernel
theorem ze_S_countCharacters_37 : decode zb_S_countCharacters 37 = .ok (.ireturn, 1) := by decide +kernel
theorem ze_S_countCharacters_38 : decode zb_S_countCharacters 38 = .ok (.iinc 2 1, 3) := by decide +kernel
theorem ze_S_countCharacters_41 : decode zb_S_countCharacters 41 = .ok (.iinc 3 1, 3) := by decide +kernel
theorem ze_S_countCharacters_44 : decode zb_S_countCharacters 44 = .ok (.goto (-40), 3) := by decide +kernel
theorem ze_S_countCharacters_47 : decode zb_S_countCharacters 47 = .ok (.iload_n 2, 1) := by decide +kernel
theorem ze_S_countCharacters_48 : decode zb_S_countCharacters 48 = .ok (.ireturn, 1) := by decide +kernel
theorem ze_S_byteAt_0 : decode zb_S_byteAt 0 = .ok (.lload_n 0, 1) := by decide +kernel
theorem ze_S_byteAt_1 : decode zb_S_byteAt 1 = .ok (.bipush 8, 2) := by decide +kernel
theorem ze_S_byteAt_3 : decode zb_S_byteAt 3 = .ok (.iload_n 2, 1) := by decide +kernel
theorem ze_S_byteAt_4 : decode zb_S_byteAt 4 = .ok (.imul, 1) := by decide +kernel
theorem ze_S_byteAt_5 : decode zb_S_byteAt 5 = .ok (.lushr, 1) := by decide +kernel
theorem ze_S_byteAt_6 : decode zb_S_byteAt 6 = .ok (.ldc2_w 40, 3) := by decide +kernel
theorem ze_S_byteAt_9 : decode zb_S_byteAt 9 = .ok (.land, 1) := by decide +kernel
theorem ze_S_byteAt_10 : decode zb_S_byteAt 10 = .ok (.l2i, 1) := by decide +kernel
theorem ze_S_byteAt_11 : decode zb_S_byteAt 11 = .ok (.i2c, 1) := by decide +kernel
theorem ze_S_byteAt_12 : decode zb_S_byteAt 12 = .ok (.ireturn, 1) := by decide +kernel
theorem ze_S_findFault_0 : decode zb_S_findFault 0 = .ok (.aload_n 0, 1) := by decide +kernel
theorem ze_S_findFault_1 : decode zb_S_findFault 1 = .ok (.iconst 0, 1) := by decide +kernel
theorem ze_S_findFault_2 : decode zb_S_findFault 2 = .ok (.putfield 42, 3) := by decide +kernel
theorem ze_S_findFault_5 : decode zb_S_findFault 5 = .ok (.aload_n 0, 1) := by decide +kernel
theorem ze_S_findFault_6 : decode zb_S_findFault 6 = .ok (.iconst 0, 1) := by decide +kernel
theorem ze_S_findFault_7 : decode zb_S_findFault 7 = .ok (.putfield 45, 3) := by decide +kernel
theorem ze_S_findFault_10 : decode zb_S_findFault 10 = .ok (.aload_n 0, 1) := by decide +kernel
theorem ze_S_findFault_11 : decode zb_S_findFault 11 = .ok (.iconst 0, 1) := by decide +kernel
theorem ze_S_findFault_12 : decode zb_S_findFault 12 = .ok (.putfield 48, 3) := by decide +kernel
theorem ze_S_findFault_15 : decode zb_S_findFault 15 = .ok (.aload_n 0, 1) := by decide +kernel
theorem ze_S_findFault_16 : decode zb_S_findFault 16 = .ok (.getfield 25, 3) := by decide +kernel
theorem ze_S_findFault_19 : decode zb_S_findFault 19 = .ok (.iconst 0, 1) := by decide +kernel
theorem ze_S_findFault_20 : decode zb_S_findFault 20 = .ok (.invokestatic 51, 3) := by decide +kernel
theorem ze_S_findFault_23 : decode zb_S_findFault 23 = .ok (.aload_n 0, 1) := by decide +kernel
theorem ze_S_findFault_24 : decode zb_S_findFault 24 = .ok (.invokevirtual 57, 3) := by decide +kernel
theorem ze_S_findFault_27 : decode zb_S_findFault 27 = .ok (.ifCond .eq 10, 3) := by decide +kernel
theorem ze_S_findFault_30 : decode zb_S_findFault 30 = .ok (.aload_n 0, 1) := by decide +kernel
theorem ze_S_findFault_31 : decode zb_S_findFault 31 = .ok (.invokevirtual 61, 3) := by decide +kernel
theorem ze_S_findFault_34 : decode zb_S_findFault 34 = .ok (.goto 9, 3) := by decide +kernel
theorem ze_S_findFault_37 : decode zb_S_findFault 37 = .ok (.aload_n 0, 1) := by decide +kernel
theorem ze_S_findFault_38 : decode zb_S_findFault 38 = .ok (.getfield 42, 3) := by decide +kernel
theorem ze_S_findFault_41 : decode zb_S_findFault 41 = .ok (.iconst 1, 1) := by decide +kernel
theorem ze_S_findFault_42 : decode zb_S_findFault 42 = .ok (.iadd, 1) := by decide +kernel
theorem ze_S_findFault_43 : decode zb_S_findFault 43 = .ok (.ireturn, 1) := by decide +kernel
theorem ze_S_findStranger_0 : decode zb_S_findStranger 0 = .ok (.iconst 0, 1) := by decide +kernel
theorem ze_S_findStranger_1 : decode zb_S_findStranger 1 = .ok (.istore_n 1, 1) := by decide +kernel
theorem ze_S_findStranger_2 : decode zb_S_findStranger 2 = .ok (.iconst 0, 1) := by decide +kernel
theorem ze_S_findStranger_3 : decode zb_S_findStranger 3 = .ok (.istore_n 2, 1) := by decide +kernel
theorem ze_S_findStranger_4 : decode zb_S_findStranger 4 = .ok (.iload_n 2, 1) := by decide +kernel
theorem ze_S_findStranger_5 : decode zb_S_findStranger 5 = .ok (.bipush 26, 2) := by decide +kernel
theorem ze_S_findStranger_7 : decode zb_S_findStranger 7 = .ok (.if_icmp .ge 63, 3) := by decide +kernel
theorem ze_S_findStranger_10 : decode zb_S_findStranger 10 = .ok (.aload_n 0, 1) := by decide +kernel
theorem ze_S_findStranger_11 : decode zb_S_findStranger 11 = .ok (.getfield 25, 3) := by decide +kernel
theorem ze_S_findStranger_14 : decode zb_S_findStranger 14 = .ok (.iload_n 2, 1) := by decide +kernel
theorem ze_S_findStranger_15 : decode zb_S_findStranger 15 = .ok (.iaload, 1) := by decide +kernel
theorem ze_S_findStranger_16 : decode zb_S_findStranger 16 = .ok (.istore_n 3, 1) := by decide +kernel
theorem ze_S_findStranger_17 : decode zb_S_findStranger 17 = .ok (.iload_n 3, 1) := by decide +kernel
theorem ze_S_findStranger_18 : decode zb_S_findStranger 18 = .ok (.ifCond .eq 27, 3) := by decide +kernel
theorem ze_S_findStranger_21 : decode zb_S_findStranger 21 = .ok (.bipush 97, 2) := by decide +kernel
theorem ze_S_findStranger_23 : decode zb_S_findStranger 23 = .ok (.iload_n 2, 1) := by decide +kernel
theorem ze_S_findStranger_24 : decode zb_S_findStranger 24 = .ok (.iadd, 1) := by decide +kernel
theorem ze_S_findStranger_25 : decode zb_S_findStranger 25 = .ok (.i2c, 1) := by decide +kernel
theorem ze_S_findStranger_26 : decode zb_S_findStranger 26 = .ok (.aload_n 0, 1) := by decide +kernel
theorem ze_S_findStranger_27 : decode zb_S_findStranger 27 = .ok (.getfield 15, 3) := by decide +kernel
theorem ze_S_findStranger_30 : decode zb_S_findStranger 30 = .ok (.aload_n 0, 1) := by decide +kernel
theorem ze_S_findStranger_31 : decode zb_S_findStranger 31 = .ok (.getfield 45, 3) := by decide +kernel
theorem ze_S_findStranger_34 : decode zb_S_findStranger 34 = .ok (.invokestatic 65, 3) := by decide +kernel
theorem ze_S_findStranger_37 : decode zb_S_findStranger 37 = .ok (.iconst (-1), 1) := by decide +kernel
theorem ze_S_findStranger_38 : decode zb_S_findStranger 38 = .ok (.if_icmp .ne 7, 3) := by decide +kernel
theorem ze_S_findStranger_41 : decode zb_S_findStranger 41 = .ok (.iconst 1, 1) := by decide +kernel
theorem ze_S_findStranger_42 : decode zb_S_findStranger 42 = .ok (.goto 4, 3) := by decide +kernel
theorem ze_S_findStranger_45 : decode zb_S_findStranger 45 = .ok (.iconst 0, 1) := by decide +kernel
theorem ze_S_findStranger_46 : decode zb_S_findStranger 46 = .ok (.istore 4, 2) := by decide +kernel
theorem ze_S_findStranger_48 : decode zb_S_findStranger 48 = .ok (.iload 4, 2) := by decide +kernel
theorem ze_S_findStranger_50 : decode zb_S_findStranger 50 = .ok (.ifCond .eq 14, 3) := by decide +kernel
theorem ze_S_findStranger_53 : decode zb_S_findStranger 53 = .ok (.iload_n 1, 1) := by decide +kernel
theorem ze_S_findStranger_54 : decode zb_S_findStranger 54 = .ok (.ifCond .eq 8, 3) := by decide +kernel
theorem ze_S_findStranger_57 : decode zb_S_findStranger 57 = .ok (.iload_n 3, 1) := by decide +kernel
theorem ze_S_findStranger_58 : decode zb_S_findStranger 58 = .ok (.iload_n 1, 1) := by decide +kernel
theorem ze_S_findStranger_59 : decode zb_S_findStranger 59 = .ok (.if_icmp .ge 5, 3) := by decide +kernel
theorem ze_S_findStranger_62 : decode zb_S_findStranger 62 = .ok (.iload_n 3, 1) := by decide +kernel
theorem ze_S_findStranger_63 : decode zb_S_findStranger 63 = .ok (.istore_n 1, 1) := by decide +kernel
theorem ze_S_findStranger_64 : decode zb_S_findStranger 64 = .ok (.iinc 2 1, 3) := by decide +kernel
theorem ze_S_findStranger_67 : decode zb_S_findStranger 67 = .ok (.goto (-63), 3) := by decide +kernel
theorem ze_S_findStranger_70 : decode zb_S_findStranger 70 = .ok (.iload_n 1, 1) := by decide +kernel
theorem ze_S_findStranger_71 : decode zb_S_findStranger 71 = .ok (.ireturn, 1) := by decide +kernel
theorem ze_S_readRules_0 : decode zb_S_readRules 0 = .ok (.aload_n 0, 1) := by decide +kernel
theorem ze_S_readRules_1 : decode zb_S_readRules 1 = .ok (.invokevirtual 69, 3) := by decide +kernel
theorem ze_S_readRules_4 : decode zb_S_readRules 4 = .ok (.ifCond .ne 5, 3) := by decide +kernel
theorem ze_S_readRules_7 : decode zb_S_readRules 7 = .ok (.iconst 0, 1) := by decide +kernel
theorem ze_S_readRules_8 : decode zb_S_readRules 8 = .ok (.ireturn, 1) := by decide +kernel
theorem ze_S_readRules_9 : decode zb_S_readRules 9 = .ok (.iconst 0, 1) := by decide +kernel
theorem ze_S_readRules_10 : decode zb_S_readRules 10 = .ok (.istore_n 1, 1) := by decide +kernel
theorem ze_S_readRules_11 : decode zb_S_readRules 11 = .ok (.iload_n 1, 1) := by decide +kernel
theorem ze_S_readRules_12 : decode zb_S_readRules 12 = .ok (.sipush 240, 3) := by decide +kernel
theorem ze_S_readRules_15 : decode zb_S_readRules 15 = .ok (.if_icmp .ge 37, 3) := by decide +kernel
theorem ze_S_readRules_18 : decode zb_S_readRules 18 = .ok (.aload_n 0, 1) := by decide +kernel
theorem ze_S_readRules_19 : decode zb_S_readRules 19 = .ok (.invokevirtual 72, 3) := by decide +kernel
theorem ze_S_readRules_22 : decode zb_S_readRules 22 = .ok (.bipush 59, 2) := by decide +kernel
theorem ze_S_readRules_24 : decode zb_S_readRules 24 = .ok (.if_icmp .ne 28, 3) := by decide +kernel
theorem ze_S_readRules_27 : decode zb_S_readRules 27 = .ok (.aload_n 0, 1) := by decide +kernel
theorem ze_S_readRules_28 : decode zb_S_readRules 28 = .ok (.dup, 1) := by decide +kernel
theorem ze_S_readRules_29 : decode zb_S_readRules 29 = .ok (.getfield 42, 3) := by decide +kernel
theorem ze_S_readRules_32 : decode zb_S_readRules 32 = .ok (.iconst 1, 1) := by decide +kernel
theorem ze_S_readRules_33 : decode zb_S_readRules 33 = .ok (.iadd, 1) := by decide +kernel
theorem ze_S_readRules_34 : decode zb_S_readRules 34 = .ok (.putfield 42, 3) := by decide +kernel
theorem ze_S_readRules_37 : decode zb_S_readRules 37 = .ok (.aload_n 0, 1) := by decide +kernel
theorem ze_S_readRules_38 : decode zb_S_readRules 38 = .ok (.invokevirtual 69, 3) := by decide +kernel
theorem ze_S_readRules_41 : decode zb_S_readRules 41 = .ok (.ifCond .ne 5, 3) := by decide +kernel
theorem ze_S_readRules_44 : decode zb_S_readRules 44 = .ok (.iconst 0, 1) := by decide +kernel
theorem ze_S_readRules_45 : decode zb_S_readRules 45 = .ok (.ireturn, 1) := by decide +kernel
theorem ze_S_readRules_46 : decode zb_S_readRules 46 = .ok (.iinc 1 1, 3) := by decide +kernel
theorem ze_S_readRules_49 : decode zb_S_readRules 49 = .ok (.goto (-38), 3) := by decide +kernel
theorem ze_S_readRules_52 : decode zb_S_readRules 52 = .ok (.aload_n 0, 1) := by decide +kernel
theorem ze_S_readRules_53 : decode zb_S_readRules 53 = .ok (.invokevirtual 72, 3) := by decide +kernel
theorem ze_S_readRules_56 : decode zb_S_readRules 56 = .ok (.ifCond .ne 7, 3) := by decide +kernel
theorem ze_S_readRules_59 : decode zb_S_readRules 59 = .ok (.iconst 1, 1) := by decide +kernel
theorem ze_S_readRules_60 : decode zb_S_readRules 60 = .ok (.goto 4, 3) := by decide +kernel
theorem ze_S_readRules_63 : decode zb_S_readRules 63 = .ok (.iconst 0, 1) := by decide +kernel
theorem ze_S_readRules_64 : decode zb_S_readRules 64 = .ok (.ireturn, 1) := by decide +kernel
theorem ze_S_readRule_0 : decode zb_S_readRule 0 = .ok (.aload_n 0, 1) := by decide +kernel
theorem ze_S_readRule_1 : decode zb_S_readRule 1 = .ok (.invokevirtual 72, 3) := by decide +kernel
theorem ze_S_readRule_4 : decode zb_S_readRule 4 = .ok (.istore_n 1, 1) := by decide +kernel
theorem ze_S_readRule_5 : decode zb_S_readRule 5 = .ok (.iload_n 1, 1) := by decide +kernel
theorem ze_S_readRule_6 : decode zb_S_readRule 6 = .ok (.invokestatic 76, 3) := by decide +kernel
theorem ze_S_readRule_9 : decode zb_S_readRule 9 = .ok (.ifCond .eq 28, 3) := by decide +kernel
theorem ze_S_readRule_12 : decode zb_S_readRule 12 = .ok (.aload_n 0, 1) := by decide +kernel
theorem ze_S_readRule_13 : decode zb_S_readRule 13 = .ok (.getfield 45, 3) := by decide +kernel
theorem ze_S_readRule_16 : decode zb_S_readRule 16 = .ok (.bipush 7, 2) := by decide +kernel
theorem ze_S_readRule_18 : decode zb_S_readRule 18 = .ok (.if_icmp .ge 19, 3) := by decide +kernel
theorem ze_S_readRule_21 : decode zb_S_readRule 21 = .ok (.iload_n 1, 1) := by decide +kernel
theorem ze_S_readRule_22 : decode zb_S_readRule 22 = .ok (.aload_n 0, 1) := by decide +kernel
theorem ze_S_readRule_23 : decode zb_S_readRule 23 = .ok (.getfield 15, 3) := by decide +kernel
theorem ze_S_readRule_26 : decode zb_S_readRule 26 = .ok (.aload_n 0, 1) := by decide +kernel
theorem ze_S_readRule_27 : decode zb_S_readRule 27 = .ok (.getfield 45, 3) := by decide +kernel
theorem ze_S_readRule_30 : decode zb_S_readRule 30 = .ok (.invokestatic 65, 3) := by decide +kernel
theorem ze_S_readRule_33 : decode zb_S_readRule 33 = .ok (.iconst (-1), 1) := by decide +kernel
theorem ze_S_readRule_34 : decode zb_S_readRule 34 = .ok (.if_icmp .eq 5, 3) := by decide +kernel
theorem ze_S_readRule_37 : decode zb_S_readRule 37 = .ok (.iconst 0, 1) := by decide +kernel
theorem ze_S_readRule_38 : decode zb_S_readRule 38 = .ok (.ireturn, 1) := by decide +kernel
theorem ze_S_readRule_39 : decode zb_S_readRule 39 = .ok (.aload_n 0, 1) := by decide +kernel
theorem ze_S_readRule_40 : decode zb_S_readRule 40 = .ok (.dup, 1) := by decide +kernel
theorem ze_S_readRule_41 : decode zb_S_readRule 41 = .ok (.getfield 42, 3) := by decide +kernel
theorem ze_S_readRule_44 : decode zb_S_readRule 44 = .ok (.iconst 1, 1) := by decide +kernel
theorem ze_S_readRule_45 : decode zb_S_readRule 45 = .ok (.iadd, 1) := by decide +kernel
theorem ze_S_readRule_46 : decode zb_S_readRule 46 = .ok (.putfield 42, 3) := by decide +kernel
theorem ze_S_readRule_49 : decode zb_S_readRule 49 = .ok (.aload_n 0, 1) := by decide +kernel
theorem ze_S_readRule_50 : decode zb_S_readRule 50 = .ok (.bipush 44, 2) := by decide +kernel
theorem ze_S_readRule_52 : decode zb_S_readRule 52 = .ok (.invokevirtual 80, 3) := by decide +kernel
theorem ze_S_readRule_55 : decode zb_S_readRule 55 = .ok (.ifCond .eq 11, 3) := by decide +kernel
theorem ze_S_readRule_58 : decode zb_S_readRule 58 = .ok (.aload_n 0, 1) := by decide +kernel
theorem ze_S_readRule_59 : decode zb_S_readRule 59 = .ok (.iconst 0, 1) := by decide +kernel
theorem ze_S_readRule_60 : decode zb_S_readRule 60 = .ok (.invokevirtual 83, 3) := by decide +kernel
theorem ze_S_readRule_63 : decode zb_S_readRule 63 = .ok (.ifCond .ne 5, 3) := by decide +kernel
theorem ze_S_readRule_66 : decode zb_S_readRule 66 = .ok (.iconst 0, 1) := by decide +kernel
theorem ze_S_readRule_67 : decode zb_S_readRule 67 = .ok (.ireturn, 1) := by decide +kernel
theorem ze_S_readRule_68 : decode zb_S_readRule 68 = .ok (.aload_n 0, 1) := by decide +kernel
theorem ze_S_readRule_69 : decode zb_S_readRule 69 = .ok (.getfield 15, 3) := by decide +kernel
theorem ze_S_readRule_72 : decode zb_S_readRule 72 = .ok (.aload_n 0, 1) := by decide +kernel
theorem ze_S_readRule_73 : decode zb_S_readRule 73 = .ok (.getfield 45, 3) := by decide +kernel
theorem ze_S_readRule_76 : decode zb_S_readRule 76 = .ok (.iload_n 1, 1) := by decide +kernel
theorem ze_S_readRule_77 : decode zb_S_readRule 77 = .ok (.castore, 1) := by decide +kernel
theorem ze_S_readRule_78 : decode zb_S_readRule 78 = .ok (.aload_n 0, 1) := by decide +kernel
theorem ze_S_readRule_79 : decode zb_S_readRule 79 = .ok (.getfield 21, 3) := by decide +kernel
theorem ze_S_readRule_82 : decode zb_S_readRule 82 = .ok (.aload_n 0, 1) := by decide +kernel
theorem ze_S_readRule_83 : decode zb_S_readRule 83 = .ok (.getfield 45, 3) := by decide +kernel
theorem ze_S_readRule_86 : decode zb_S_readRule 86 = .ok (.aload_n 0, 1) := by decide +kernel
theorem ze_S_readRule_87 : decode zb_S_readRule 87 = .ok (.getfield 48, 3) := by decide +kernel
theorem ze_S_readRule_90 : decode zb_S_readRule 90 = .ok (.iastore, 1) := by decide +kernel
theorem ze_S_readRule_91 : decode zb_S_readRule 91 = .ok (.aload_n 0, 1) := by decide +kernel
theorem ze_S_readRule_92 : decode zb_S_readRule 92 = .ok (.dup, 1) := by decide +kernel
theorem ze_S_readRule_93 : decode zb_S_readRule 93 = .ok (.getfield 45, 3) := by decide +kernel
theorem ze_S_readRule_96 : decode zb_S_readRule 96 = .ok (.iconst 1, 1) := by decide +kernel
theorem ze_S_readRule_97 : decode zb_S_readRule 97 = .ok (.iadd, 1) := by decide +kernel
theorem ze_S_readRule_98 : decode zb_S_readRule 98 = .ok (.putfield 45, 3) := by decide +kernel
theorem ze_S_readRule_101 : decode zb_S_readRule 101 = .ok (.iconst 1, 1) := by decide +kernel
theorem ze_S_readRule_102 : decode zb_S_readRule 102 = .ok (.ireturn, 1) := by decide +kernel
theorem ze_S_readSum_0 : decode zb_S_readSum 0 = .ok (.aload_n 0, 1) := by decide +kernel
theorem ze_S_readSum_1 : decode zb_S_readSum 1 = .ok (.iload_n 1, 1) := by decide +kernel
theorem ze_S_readSum_2 : decode zb_S_readSum 2 = .ok (.invokevirtual 87, 3) := by decide +kernel
theorem ze_S_readSum_5 : decode zb_S_readSum 5 = .ok (.ifCond .ne 5, 3) := by decide +kernel
theorem ze_S_readSum_8 : decode zb_S_readSum 8 = .ok (.iconst 0, 1) := by decide +kernel
theorem ze_S_readSum_9 : decode zb_S_readSum 9 = .ok (.ireturn, 1) := by decide +kernel
theorem ze_S_readSum_10 : decode zb_S_readSum 10 = .ok (.iconst 0, 1) := by decide +kernel
theorem ze_S_readSum_11 : decode zb_S_readSum 11 = .ok (.istore_n 2, 1) := by decide +kernel
theorem ze_S_readSum_12 : decode zb_S_readSum 12 = .ok (.iload_n 2, 1) := by decide +kernel
theorem ze_S_readSum_13 : decode zb_S_readSum 13 = .ok (.sipush 240, 3) := by decide +kernel
theorem ze_S_readSum_16 : decode zb_S_readSum 16 = .ok (.if_icmp .ge 44, 3) := by decide +kernel
theorem ze_S_readSum_19 : decode zb_S_readSum 19 = .ok (.aload_n 0, 1) := by decide +kernel
theorem ze_S_readSum_20 : decode zb_S_readSum 20 = .ok (.invokevirtual 72, 3) := by decide +kernel
theorem ze_S_readSum_23 : decode zb_S_readSum 23 = .ok (.bipush 124, 2) := by decide +kernel
theorem ze_S_readSum_25 : decode zb_S_readSum 25 = .ok (.if_icmp .ne 35, 3) := by decide +kernel
theorem ze_S_readSum_28 : decode zb_S_readSum 28 = .ok (.aload_n 0, 1) := by decide +kernel
theorem ze_S_readSum_29 : decode zb_S_readSum 29 = .ok (.dup, 1) := by decide +kernel
theorem ze_S_readSum_30 : decode zb_S_readSum 30 = .ok (.getfield 42, 3) := by decide +kernel
theorem ze_S_readSum_33 : decode zb_S_readSum 33 = .ok (.iconst 1, 1) := by decide +kernel
theorem ze_S_readSum_34 : decode zb_S_readSum 34 = .ok (.iadd, 1) := by decide +kernel
theorem ze_S_readSum_35 : decode zb_S_readSum 35 = .ok (.putfield 42, 3) := by decide +kernel
theorem ze_S_readSum_38 : decode zb_S_readSum 38 = .ok (.aload_n 0, 1) := by decide +kernel
theorem ze_S_readSum_39 : decode zb_S_readSum 39 = .ok (.iload_n 1, 1) := by decide +kernel
theorem ze_S_readSum_40 : decode zb_S_readSum 40 = .ok (.invokevirtual 87, 3) := by decide +kernel
theorem ze_S_readSum_43 : decode zb_S_readSum 43 = .ok (.ifCond .ne 5, 3) := by decide +kernel
theorem ze_S_readSum_46 : decode zb_S_readSum 46 = .ok (.iconst 0, 1) := by decide +kernel
theorem ze_S_readSum_47 : decode zb_S_readSum 47 = .ok (.ireturn, 1) := by decide +kernel
theorem ze_S_readSum_48 : decode zb_S_readSum 48 = .ok (.aload_n 0, 1) := by decide +kernel
theorem ze_S_readSum_49 : decode zb_S_readSum 49 = .ok (.bipush 124, 2) := by decide +kernel
theorem ze_S_readSum_51 : decode zb_S_readSum 51 = .ok (.invokevirtual 90, 3) := by decide +kernel
theorem ze_S_readSum_54 : decode zb_S_readSum 54 = .ok (.iinc 2 1, 3) := by decide +kernel
theorem ze_S_readSum_57 : decode zb_S_readSum 57 = .ok (.goto (-45), 3) := by decide +kernel
theorem ze_S_readSum_60 : decode zb_S_readSum 60 = .ok (.iconst 1, 1) := by decide +kernel
theorem ze_S_readSum_61 : decode zb_S_readSum 61 = .ok (.ireturn, 1) := by decide +kernel
theorem ze_S_readProduct_0 : decode zb_S_readProduct 0 = .ok (.aload_n 0, 1) := by decide +kernel
theorem ze_S_readProduct_1 : decode zb_S_readProduct 1 = .ok (.iload_n 1, 1) := by decide +kernel
theorem ze_S_readProduct_2 : decode zb_S_readProduct 2 = .ok (.invokevirtual 94, 3) := by decide +kernel
theorem ze_S_readProduct_5 : decode zb_S_readProduct 5 = .ok (.ifCond .ne 5, 3) := by decide +kernel
theorem ze_S_readProduct_8 : decode zb_S_readProduct 8 = .ok (.iconst 0, 1) := by decide +kernel
theorem ze_S_readProduct_9 : decode zb_S_readProduct 9 = .ok (.ireturn, 1) := by decide +kernel
theorem ze_S_readProduct_10 : decode zb_S_readProduct 10 = .ok (.iconst 0, 1) := by decide +kernel
theorem ze_S_readProduct_11 : decode zb_S_readProduct 11 = .ok (.istore_n 2, 1) := by decide +kernel
theorem ze_S_readProduct_12 : decode zb_S_readProduct 12 = .ok (.iload_n 2, 1) := by decide +kernel
theorem ze_S_readProduct_13 : decode zb_S_readProduct 13 = .ok (.sipush 240, 3) := by decide +kernel
theorem ze_S_readProduct_16 : decode zb_S_readProduct 16 = .ok (.if_icmp .ge 44, 3) := by decide +kernel
theorem ze_S_readProduct_19 : decode zb_S_readProduct 19 = .ok (.aload_n 0, 1) := by decide +kernel
theorem ze_S_readProduct_20 : decode zb_S_readProduct 20 = .ok (.invokevirtual 72, 3) := by decide +kernel
theorem ze_S_readProduct_23 : decode zb_S_readProduct 23 = .ok (.bipush 38, 2) := by decide +kernel
theorem ze_S_readProduct_25 : decode zb_S_readProduct 25 = .ok (.if_icmp .ne 35, 3) := by decide +kernel
theorem ze_S_readProduct_28 : decode zb_S_readProduct 28 = .ok (.aload_n 0, 1) := by decide +kernel
theorem ze_S_readProduct_29 : decode zb_S_readProduct 29 = .ok (.dup, 1) := by decide +kernel
theorem ze_S_readProduct_30 : decode zb_S_readProduct 30 = .ok (.getfield 42, 3) := by decide +kernel
theorem ze_S_readProduct_33 : decode zb_S_readProduct 33 = .ok (.iconst 1, 1) := by decide +kernel
theorem ze_S_readProduct_34 : decode zb_S_readProduct 34 = .ok (.iadd, 1) := by decide +kernel
theorem ze_S_readProduct_35 : decode zb_S_readProduct 35 = .ok (.putfield 42, 3) := by decide +kernel
theorem ze_S_readProduct_38 : decode zb_S_readProduct 38 = .ok (.aload_n 0, 1) := by decide +kernel
theorem ze_S_readProduct_39 : decode zb_S_readProduct 39 = .ok (.iload_n 1, 1) := by decide +kernel
theorem ze_S_readProduct_40 : decode zb_S_readProduct 40 = .ok (.invokevirtual 94, 3) := by decide +kernel
theorem ze_S_readProduct_43 : decode zb_S_readProduct 43 = .ok (.ifCond .ne 5, 3) := by decide +kernel
theorem ze_S_readProduct_46 : decode zb_S_readProduct 46 = .ok (.iconst 0, 1) := by decide +kernel
theorem ze_S_readProduct_47 : decode zb_S_readProduct 47 = .ok (.ireturn, 1) := by decide +kernel
theorem ze_S_readProduct_48 : decode zb_S_readProduct 48 = .ok (.aload_n 0, 1) := by decide +kernel
theorem ze_S_readProduct_49 : decode zb_S_readProduct 49 = .ok (.bipush 38, 2) := by decide +kernel
theorem ze_S_readProduct_51 : decode zb_S_readProduct 51 = .ok (.invokevirtual 90, 3) := by decide +kernel
theorem ze_S_readProduct_54 : decode zb_S_readProduct 54 = .ok (.iinc 2 1, 3) := by decide +kernel
theorem ze_S_readProduct_57 : decode zb_S_readProduct 57 = .ok (.goto (-45), 3) := by decide +kernel
theorem ze_S_readProduct_60 : decode zb_S_readProduct 60 = .ok (.iconst 1, 1) := by decide +kernel
theorem ze_S_readProduct_61 : decode zb_S_readProduct 61 = .ok (.ireturn, 1) := by decide +kernel
theorem ze_S_readFactor_0 : decode zb_S_readFactor 0 = .ok (.aload_n 0, 1) := by decide +kernel
theorem ze_S_readFactor_1 : decode zb_S_readFactor 1 = .ok (.invokevirtual 72, 3) := by decide +kernel
theorem ze_S_readFactor_4 : decode zb_S_readFactor 4 = .ok (.istore_n 2, 1) := by decide +kernel
theorem ze_S_readFactor_5 : decode zb_S_readFactor 5 = .ok (.iload_n 2, 1) := by decide +kernel
theorem ze_S_readFactor_6 : decode zb_S_readFactor 6 = .ok (.bipush 33, 2) := by decide +kernel
theorem ze_S_readFactor_8 : decode zb_S_readFactor 8 = .ok (.if_icmp .eq 15, 3) := by decide +kernel
theorem ze_S_readFactor_11 : decode zb_S_readFactor 11 = .ok (.iload_n 2, 1) := by decide +kernel
theorem ze_S_readFactor_12 : decode zb_S_readFactor 12 = .ok (.bipush 40, 2) := by decide +kernel
theorem ze_S_readFactor_14 : decode zb_S_readFactor 14 = .ok (.if_icmp .eq 9, 3) := by decide +kernel
theorem ze_S_readFactor_17 : decode zb_S_readFactor 17 = .ok (.aload_n 0, 1) := by decide +kernel
theorem ze_S_readFactor_18 : decode zb_S_readFactor 18 = .ok (.iload_n 2, 1) := by decide +kernel
theorem ze_S_readFactor_19 : decode zb_S_readFactor 19 = .ok (.invokevirtual 97, 3) := by decide +kernel
theorem ze_S_readFactor_22 : decode zb_S_readFactor 22 = .ok (.ireturn, 1) := by decide +kernel
theorem ze_S_readFactor_23 : decode zb_S_readFactor 23 = .ok (.iload_n 1, 1) := by decide +kernel
theorem ze_S_readFactor_24 : decode zb_S_readFactor 24 = .ok (.bipush 12, 2) := by decide +kernel
theorem ze_S_readFactor_26 : decode zb_S_readFactor 26 = .ok (.if_icmp .lt 5, 3) := by decide +kernel
theorem ze_S_readFactor_29 : decode zb_S_readFactor 29 = .ok (.iconst 0, 1) := by decide +kernel
theorem ze_S_readFactor_30 : decode zb_S_readFactor 30 = .ok (.ireturn, 1) := by decide +kernel
theorem ze_S_readFactor_31 : decode zb_S_readFactor 31 = .ok (.aload_n 0, 1) := by decide +kernel
theorem ze_S_readFactor_32 : decode zb_S_readFactor 32 = .ok (.dup, 1) := by decide +kernel
theorem ze_S_readFactor_33 : decode zb_S_readFactor 33 = .ok (.getfield 42, 3) := by decide +kernel
theorem ze_S_readFactor_36 : decode zb_S_readFactor 36 = .ok (.iconst 1, 1) := by decide +kernel
theorem ze_S_readFactor_37 : decode zb_S_readFactor 37 = .ok (.iadd, 1) := by decide +kernel
theorem ze_S_readFactor_38 : decode zb_S_readFactor 38 = .ok (.putfield 42, 3) := by decide +kernel
theorem ze_S_readFactor_41 : decode zb_S_readFactor 41 = .ok (.iload_n 2, 1) := by decide +kernel
theorem ze_S_readFactor_42 : decode zb_S_readFactor 42 = .ok (.bipush 40, 2) := by decide +kernel
theorem ze_S_readFactor_44 : decode zb_S_readFactor 44 = .ok (.if_icmp .ne 28, 3) := by decide +kernel
theorem ze_S_readFactor_47 : decode zb_S_readFactor 47 = .ok (.aload_n 0, 1) := by decide +kernel
theorem ze_S_readFactor_48 : decode zb_S_readFactor 48 = .ok (.iload_n 1, 1) := by decide +kernel
theorem ze_S_readFactor_49 : decode zb_S_readFactor 49 = .ok (.iconst 1, 1) := by decide +kernel
theorem ze_S_readFactor_50 : decode zb_S_readFactor 50 = .ok (.iadd, 1) := by decide +kernel
theorem ze_S_readFactor_51 : decode zb_S_readFactor 51 = .ok (.invokevirtual 83, 3) := by decide +kernel
theorem ze_S_readFactor_54 : decode zb_S_readFactor 54 = .ok (.ifCond .eq 16, 3) := by decide +kernel
theorem ze_S_readFactor_57 : decode zb_S_readFactor 57 = .ok (.aload_n 0, 1) := by decide +kernel
theorem ze_S_readFactor_58 : decode zb_S_readFactor 58 = .ok (.bipush 41, 2) := by decide +kernel
theorem ze_S_readFactor_60 : decode zb_S_readFactor 60 = .ok (.invokevirtual 80, 3) := by decide +kernel
theorem ze_S_readFactor_63 : decode zb_S_readFactor 63 = .ok (.ifCond .eq 7, 3) := by decide +kernel
theorem ze_S_readFactor_66 : decode zb_S_readFactor 66 = .ok (.iconst 1, 1) := by decide +kernel
theorem ze_S_readFactor_67 : decode zb_S_readFactor 67 = .ok (.goto 4, 3) := by decide +kernel
theorem ze_S_readFactor_70 : decode zb_S_readFactor 70 = .ok (.iconst 0, 1) := by decide +kernel
theorem ze_S_readFactor_71 : decode zb_S_readFactor 71 = .ok (.ireturn, 1) := by decide +kernel
theorem ze_S_readFactor_72 : decode zb_S_readFactor 72 = .ok (.aload_n 0, 1) := by decide +kernel
theorem ze_S_readFactor_73 : decode zb_S_readFactor 73 = .ok (.iload_n 1, 1) := by decide +kernel
theorem ze_S_readFactor_74 : decode zb_S_readFactor 74 = .ok (.iconst 1, 1) := by decide +kernel
theorem ze_S_readFactor_75 : decode zb_S_readFactor 75 = .ok (.iadd, 1) := by decide +kernel
theorem ze_S_readFactor_76 : decode zb_S_readFactor 76 = .ok (.invokevirtual 94, 3) := by decide +kernel
theorem ze_S_readFactor_79 : decode zb_S_readFactor 79 = .ok (.ifCond .ne 5, 3) := by decide +kernel
theorem ze_S_readFactor_82 : decode zb_S_readFactor 82 = .ok (.iconst 0, 1) := by decide +kernel
theorem ze_S_readFactor_83 : decode zb_S_readFactor 83 = .ok (.ireturn, 1) := by decide +kernel
theorem ze_S_readFactor_84 : decode zb_S_readFactor 84 = .ok (.aload_n 0, 1) := by decide +kernel
theorem ze_S_readFactor_85 : decode zb_S_readFactor 85 = .ok (.bipush 33, 2) := by decide +kernel
theorem ze_S_readFactor_87 : decode zb_S_readFactor 87 = .ok (.invokevirtual 90, 3) := by decide +kernel
theorem ze_S_readFactor_90 : decode zb_S_readFactor 90 = .ok (.iconst 1, 1) := by decide +kernel
theorem ze_S_readFactor_91 : decode zb_S_readFactor 91 = .ok (.ireturn, 1) := by decide +kernel
theorem ze_S_readLeaf_0 : decode zb_S_readLeaf 0 = .ok (.iload_n 1, 1) := by decide +kernel
theorem ze_S_readLeaf_1 : decode zb_S_readLeaf 1 = .ok (.invokestatic 76, 3) := by decide +kernel
theorem ze_S_readLeaf_4 : decode zb_S_readLeaf 4 = .ok (.ifCond .eq 33, 3) := by decide +kernel
theorem ze_S_readLeaf_7 : decode zb_S_readLeaf 7 = .ok (.aload_n 0, 1) := by decide +kernel
theorem ze_S_readLeaf_8 : decode zb_S_readLeaf 8 = .ok (.getfield 25, 3) := by decide +kernel
theorem ze_S_readLeaf_11 : decode zb_S_readLeaf 11 = .ok (.iload_n 1, 1) := by decide +kernel
theorem ze_S_readLeaf_12 : decode zb_S_readLeaf 12 = .ok (.bipush 97, 2) := by decide +kernel
theorem ze_S_readLeaf_14 : decode zb_S_readLeaf 14 = .ok (.isub, 1) := by decide +kernel
theorem ze_S_readLeaf_15 : decode zb_S_readLeaf 15 = .ok (.iaload, 1) := by decide +kernel
theorem ze_S_readLeaf_16 : decode zb_S_readLeaf 16 = .ok (.ifCond .ne 35, 3) := by decide +kernel
theorem ze_S_readLeaf_19 : decode zb_S_readLeaf 19 = .ok (.aload_n 0, 1) := by decide +kernel
theorem ze_S_readLeaf_20 : decode zb_S_readLeaf 20 = .ok (.getfield 25, 3) := by decide +kernel
theorem ze_S_readLeaf_23 : decode zb_S_readLeaf 23 = .ok (.iload_n 1, 1) := by decide +kernel
theorem ze_S_readLeaf_24 : decode zb_S_readLeaf 24 = .ok (.bipush 97, 2) := by decide +kernel
theorem ze_S_readLeaf_26 : decode zb_S_readLeaf 26 = .ok (.isub, 1) := by decide +kernel
theorem ze_S_readLeaf_27 : decode zb_S_readLeaf 27 = .ok (.aload_n 0, 1) := by decide +kernel
theorem ze_S_readLeaf_28 : decode zb_S_readLeaf 28 = .ok (.getfield 42, 3) := by decide +kernel
theorem ze_S_readLeaf_31 : decode zb_S_readLeaf 31 = .ok (.iconst 1, 1) := by decide +kernel
theorem ze_S_readLeaf_32 : decode zb_S_readLeaf 32 = .ok (.iadd, 1) := by decide +kernel
theorem ze_S_readLeaf_33 : decode zb_S_readLeaf 33 = .ok (.iastore, 1) := by decide +kernel
theorem ze_S_readLeaf_34 : decode zb_S_readLeaf 34 = .ok (.goto 17, 3) := by decide +kernel
theorem ze_S_readLeaf_37 : decode zb_S_readLeaf 37 = .ok (.iload_n 1, 1) := by decide +kernel
theorem ze_S_readLeaf_38 : decode zb_S_readLeaf 38 = .ok (.bipush 48, 2) := by decide +kernel
theorem ze_S_readLeaf_40 : decode zb_S_readLeaf 40 = .ok (.if_icmp .eq 11, 3) := by decide +kernel
theorem ze_S_readLeaf_43 : decode zb_S_readLeaf 43 = .ok (.iload_n 1, 1) := by decide +kernel
theorem ze_S_readLeaf_44 : decode zb_S_readLeaf 44 = .ok (.bipush 49, 2) := by decide +kernel
theorem ze_S_readLeaf_46 : decode zb_S_readLeaf 46 = .ok (.if_icmp .eq 5, 3) := by decide +kernel
theorem ze_S_readLeaf_49 : decode zb_S_readLeaf 49 = .ok (.iconst 0, 1) := by decide +kernel
theorem ze_S_readLeaf_50 : decode zb_S_readLeaf 50 = .ok (.ireturn, 1) := by decide +kernel
theorem ze_S_readLeaf_51 : decode zb_S_readLeaf 51 = .ok (.aload_n 0, 1) := by decide +kernel
theorem ze_S_readLeaf_52 : decode zb_S_readLeaf 52 = .ok (.dup, 1) := by decide +kernel
theorem ze_S_readLeaf_53 : decode zb_S_readLeaf 53 = .ok (.getfield 42, 3) := by decide +kernel
theorem ze_S_readLeaf_56 : decode zb_S_readLeaf 56 = .ok (.iconst 1, 1) := by decide +kernel
theorem ze_S_readLeaf_57 : decode zb_S_readLeaf 57 = .ok (.iadd, 1) := by decide +kernel
theorem ze_S_readLeaf_58 : decode zb_S_readLeaf 58 = .ok (.putfield 42, 3) := by decide +kernel
theorem ze_S_readLeaf_61 : decode zb_S_readLeaf 61 = .ok (.aload_n 0, 1) := by decide +kernel
theorem ze_S_readLeaf_62 : decode zb_S_readLeaf 62 = .ok (.iload_n 1, 1) := by decide +kernel
theorem ze_S_readLeaf_63 : decode zb_S_readLeaf 63 = .ok (.invokevirtual 90, 3) := by decide +kernel
theorem ze_S_readLeaf_66 : decode zb_S_readLeaf 66 = .ok (.iconst 1, 1) := by decide +kernel
theorem ze_S_readLeaf_67 : decode zb_S_readLeaf 67 = .ok (.ireturn, 1) := by decide +kernel
theorem ze_S_readMark_0 : decode zb_S_readMark 0 = .ok (.aload_n 0, 1) := by decide +kernel
theorem ze_S_readMark_1 : decode zb_S_readMark 1 = .ok (.invokevirtual 72, 3) := by decide +kernel
theorem ze_S_readMark_4 : decode zb_S_readMark 4 = .ok (.iload_n 1, 1) := by decide +kernel
theorem ze_S_readMark_5 : decode zb_S_readMark 5 = .ok (.if_icmp .eq 5, 3) := by decide +kernel
theorem ze_S_readMark_8 : decode zb_S_readMark 8 = .ok (.iconst 0, 1) := by decide +kernel
theorem ze_S_readMark_9 : decode zb_S_readMark 9 = .ok (.ireturn, 1) := by decide +kernel
theorem ze_S_readMark_10 : decode zb_S_readMark 10 = .ok (.aload_n 0, 1) := by decide +kernel
theorem ze_S_readMark_11 : decode zb_S_readMark 11 = .ok (.dup, 1) := by decide +kernel
theorem ze_S_readMark_12 : decode zb_S_readMark 12 = .ok (.getfield 42, 3) := by decide +kernel
theorem ze_S_readMark_15 : decode zb_S_readMark 15 = .ok (.iconst 1, 1) := by decide +kernel
theorem ze_S_readMark_16 : decode zb_S_readMark 16 = .ok (.iadd, 1) := by decide +kernel
theorem ze_S_readMark_17 : decode zb_S_readMark 17 = .ok (.putfield 42, 3) := by decide +kernel
theorem ze_S_readMark_20 : decode zb_S_readMark 20 = .ok (.iconst 1, 1) := by decide +kernel
theorem ze_S_readMark_21 : decode zb_S_readMark 21 = .ok (.ireturn, 1) := by decide +kernel
theorem ze_S_ahead_0 : decode zb_S_ahead 0 = .ok (.aload_n 0, 1) := by decide +kernel
theorem ze_S_ahead_1 : decode zb_S_ahead 1 = .ok (.getfield 42, 3) := by decide +kernel
theorem ze_S_ahead_4 : decode zb_S_ahead 4 = .ok (.aload_n 0, 1) := by decide +kernel
theorem ze_S_ahead_5 : decode zb_S_ahead 5 = .ok (.getfield 28, 3) := by decide +kernel
theorem ze_S_ahead_8 : decode zb_S_ahead 8 = .ok (.if_icmp .ge 30, 3) := by decide +kernel
theorem ze_S_ahead_11 : decode zb_S_ahead 11 = .ok (.aload_n 0, 1) := by decide +kernel
theorem ze_S_ahead_12 : decode zb_S_ahead 12 = .ok (.getfield 9, 3) := by decide +kernel
theorem ze_S_ahead_15 : decode zb_S_ahead 15 = .ok (.aload_n 0, 1) := by decide +kernel
theorem ze_S_ahead_16 : decode zb_S_ahead 16 = .ok (.getfield 42, 3) := by decide +kernel
theorem ze_S_ahead_19 : decode zb_S_ahead 19 = .ok (.caload, 1) := by decide +kernel
theorem ze_S_ahead_20 : decode zb_S_ahead 20 = .ok (.bipush 32, 2) := by decide +kernel
theorem ze_S_ahead_22 : decode zb_S_ahead 22 = .ok (.if_icmp .ne 16, 3) := by decide +kernel
theorem ze_S_ahead_25 : decode zb_S_ahead 25 = .ok (.aload_n 0, 1) := by decide +kernel
theorem ze_S_ahead_26 : decode zb_S_ahead 26 = .ok (.dup, 1) := by decide +kernel
theorem ze_S_ahead_27 : decode zb_S_ahead 27 = .ok (.getfield 42, 3) := by decide +kernel
theorem ze_S_ahead_30 : decode zb_S_ahead 30 = .ok (.iconst 1, 1) := by decide +kernel
theorem ze_S_ahead_31 : decode zb_S_ahead 31 = .ok (.iadd, 1) := by decide +kernel
theorem ze_S_ahead_32 : decode zb_S_ahead 32 = .ok (.putfield 42, 3) := by decide +kernel
theorem ze_S_ahead_35 : decode zb_S_ahead 35 = .ok (.goto (-35), 3) := by decide +kernel
theorem ze_S_ahead_38 : decode zb_S_ahead 38 = .ok (.aload_n 0, 1) := by decide +kernel
theorem ze_S_ahead_39 : decode zb_S_ahead 39 = .ok (.getfield 42, 3) := by decide +kernel
theorem ze_S_ahead_42 : decode zb_S_ahead 42 = .ok (.aload_n 0, 1) := by decide +kernel
theorem ze_S_ahead_43 : decode zb_S_ahead 43 = .ok (.getfield 28, 3) := by decide +kernel
theorem ze_S_ahead_46 : decode zb_S_ahead 46 = .ok (.if_icmp .ge 15, 3) := by decide +kernel
theorem ze_S_ahead_49 : decode zb_S_ahead 49 = .ok (.aload_n 0, 1) := by decide +kernel
theorem ze_S_ahead_50 : decode zb_S_ahead 50 = .ok (.getfield 9, 3) := by decide +kernel
theorem ze_S_ahead_53 : decode zb_S_ahead 53 = .ok (.aload_n 0, 1) := by decide +kernel
theorem ze_S_ahead_54 : decode zb_S_ahead 54 = .ok (.getfield 42, 3) := by decide +kernel
theorem ze_S_ahead_57 : decode zb_S_ahead 57 = .ok (.caload, 1) := by decide +kernel
theorem ze_S_ahead_58 : decode zb_S_ahead 58 = .ok (.goto 4, 3) := by decide +kernel
theorem ze_S_ahead_61 : decode zb_S_ahead 61 = .ok (.iconst 0, 1) := by decide +kernel
theorem ze_S_ahead_62 : decode zb_S_ahead 62 = .ok (.ireturn, 1) := by decide +kernel
theorem ze_S_emit_0 : decode zb_S_emit 0 = .ok (.aload_n 0, 1) := by decide +kernel
theorem ze_S_emit_1 : decode zb_S_emit 1 = .ok (.getfield 48, 3) := by decide +kernel
theorem ze_S_emit_4 : decode zb_S_emit 4 = .ok (.sipush 240, 3) := by decide +kernel
theorem ze_S_emit_7 : decode zb_S_emit 7 = .ok (.if_icmp .ge 23, 3) := by decide +kernel
theorem ze_S_emit_10 : decode zb_S_emit 10 = .ok (.aload_n 0, 1) := by decide +kernel
theorem ze_S_emit_11 : decode zb_S_emit 11 = .ok (.getfield 18, 3) := by decide +kernel
theorem ze_S_emit_14 : decode zb_S_emit 14 = .ok (.aload_n 0, 1) := by decide +kernel
theorem ze_S_emit_15 : decode zb_S_emit 15 = .ok (.getfield 48, 3) := by decide +kernel
theorem ze_S_emit_18 : decode zb_S_emit 18 = .ok (.iload_n 1, 1) := by decide +kernel
theorem ze_S_emit_19 : decode zb_S_emit 19 = .ok (.castore, 1) := by decide +kernel
theorem ze_S_emit_20 : decode zb_S_emit 20 = .ok (.aload_n 0, 1) := by decide +kernel
theorem ze_S_emit_21 : decode zb_S_emit 21 = .ok (.dup, 1) := by decide +kernel
theorem ze_S_emit_22 : decode zb_S_emit 22 = .ok (.getfield 48, 3) := by decide +kernel
theorem ze_S_emit_25 : decode zb_S_emit 25 = .ok (.iconst 1, 1) := by decide +kernel
theorem ze_S_emit_26 : decode zb_S_emit 26 = .ok (.iadd, 1) := by decide +kernel
theorem ze_S_emit_27 : decode zb_S_emit 27 = .ok (.putfield 48, 3) := by decide +kernel
theorem ze_S_emit_30 : decode zb_S_emit 30 = .ok (.return_, 1) := by decide +kernel
theorem ze_S_isName_0 : decode zb_S_isName 0 = .ok (.iload_n 0, 1) := by decide +kernel
theorem ze_S_isName_1 : decode zb_S_isName 1 = .ok (.bipush 97, 2) := by decide +kernel
theorem ze_S_isName_3 : decode zb_S_isName 3 = .ok (.if_icmp .lt 13, 3) := by decide +kernel
theorem ze_S_isName_6 : decode zb_S_isName 6 = .ok (.iload_n 0, 1) := by decide +kernel
theorem ze_S_isName_7 : decode zb_S_isName 7 = .ok (.bipush 122, 2) := by decide +kernel
theorem ze_S_isName_9 : decode zb_S_isName 9 = .ok (.if_icmp .gt 7, 3) := by decide +kernel
theorem ze_S_isName_12 : decode zb_S_isName 12 = .ok (.iconst 1, 1) := by decide +kernel
theorem ze_S_isName_13 : decode zb_S_isName 13 = .ok (.goto 4, 3) := by decide +kernel
theorem ze_S_isName_16 : decode zb_S_isName 16 = .ok (.iconst 0, 1) := by decide +kernel
theorem ze_S_isName_17 : decode zb_S_isName 17 = .ok (.ireturn, 1) := by decide +kernel
theorem ze_R_take_0 : decode zb_R_take 0 = .ok (.aload_n 0, 1) := by decide +kernel
theorem ze_R_take_1 : decode zb_R_take 1 = .ok (.aload_n 1, 1) := by decide +kernel
theorem ze_R_take_2 : decode zb_R_take 2 = .ok (.getfield 29, 3) := by decide +kernel
theorem ze_R_take_5 : decode zb_R_take 5 = .ok (.putfield 35, 3) := by decide +kernel
theorem ze_R_take_8 : decode zb_R_take 8 = .ok (.iconst 0, 1) := by decide +kernel
theorem ze_R_take_9 : decode zb_R_take 9 = .ok (.istore_n 2, 1) := by decide +kernel
theorem ze_R_take_10 : decode zb_R_take 10 = .ok (.iconst 0, 1) := by decide +kernel
theorem ze_R_take_11 : decode zb_R_take 11 = .ok (.istore_n 3, 1) := by decide +kernel
theorem ze_R_take_12 : decode zb_R_take 12 = .ok (.iload_n 3, 1) := by decide +kernel
theorem ze_R_take_13 : decode zb_R_take 13 = .ok (.aload_n 0, 1) := by decide +kernel
theorem ze_R_take_14 : decode zb_R_take 14 = .ok (.getfield 35, 3) := by decide +kernel
theorem ze_R_take_17 : decode zb_R_take 17 = .ok (.if_icmp .ge 75, 3) := by decide +kernel
theorem ze_R_take_20 : decode zb_R_take 20 = .ok (.aload_n 0, 1) := by decide +kernel
theorem ze_R_take_21 : decode zb_R_take 21 = .ok (.getfield 9, 3) := by decide +kernel
theorem ze_R_take_24 : decode zb_R_take 24 = .ok (.iload_n 3, 1) := by decide +kernel
theorem ze_R_take_25 : decode zb_R_take 25 = .ok (.aload_n 1, 1) := by decide +kernel
theorem ze_R_take_26 : decode zb_R_take 26 = .ok (.getfield 36, 3) := by decide +kernel
theorem ze_R_take_29 : decode zb_R_take 29 = .ok (.iload_n 3, 1) := by decide +kernel
theorem ze_R_take_30 : decode zb_R_take 30 = .ok (.caload, 1) := by decide +kernel
theorem ze_R_take_31 : decode zb_R_take 31 = .ok (.castore, 1) := by decide +kernel
theorem ze_R_take_32 : decode zb_R_take 32 = .ok (.aload_n 0, 1) := by decide +kernel
theorem ze_R_take_33 : decode zb_R_take 33 = .ok (.getfield 15, 3) := by decide +kernel
theorem ze_R_take_36 : decode zb_R_take 36 = .ok (.iload_n 3, 1) := by decide +kernel
theorem ze_R_take_37 : decode zb_R_take 37 = .ok (.iconst 2, 1) := by decide +kernel
theorem ze_R_take_38 : decode zb_R_take 38 = .ok (.iastore, 1) := by decide +kernel
theorem ze_R_take_39 : decode zb_R_take 39 = .ok (.aload_n 0, 1) := by decide +kernel
theorem ze_R_take_40 : decode zb_R_take 40 = .ok (.getfield 19, 3) := by decide +kernel
theorem ze_R_take_43 : decode zb_R_take 43 = .ok (.iload_n 3, 1) := by decide +kernel
theorem ze_R_take_44 : decode zb_R_take 44 = .ok (.aload_n 0, 1) := by decide +kernel
theorem ze_R_take_45 : decode zb_R_take 45 = .ok (.aload_n 1, 1) := by decide +kernel
theorem ze_R_take_46 : decode zb_R_take 46 = .ok (.iload_n 2, 1) := by decide +kernel
theorem ze_R_take_47 : decode zb_R_take 47 = .ok (.aload_n 1, 1) := by decide +kernel
theorem ze_R_take_48 : decode zb_R_take 48 = .ok (.getfield 37, 3) := by decide +kernel
theorem ze_R_take_51 : decode zb_R_take 51 = .ok (.iload_n 3, 1) := by decide +kernel
theorem ze_R_take_52 : decode zb_R_take 52 = .ok (.iaload, 1) := by decide +kernel
theorem ze_R_take_53 : decode zb_R_take 53 = .ok (.lconst 0, 1) := by decide +kernel
theorem ze_R_take_54 : decode zb_R_take 54 = .ok (.invokevirtual 40, 3) := by decide +kernel
theorem ze_R_take_57 : decode zb_R_take 57 = .ok (.lastore, 1) := by decide +kernel
theorem ze_R_take_58 : decode zb_R_take 58 = .ok (.aload_n 0, 1) := by decide +kernel
theorem ze_R_take_59 : decode zb_R_take 59 = .ok (.getfield 23, 3) := by decide +kernel
theorem ze_R_take_62 : decode zb_R_take 62 = .ok (.iload_n 3, 1) := by decide +kernel
theorem ze_R_take_63 : decode zb_R_take 63 = .ok (.aload_n 0, 1) := by decide +kernel
theorem ze_R_take_64 : decode zb_R_take 64 = .ok (.aload_n 1, 1) := by decide +kernel
theorem ze_R_take_65 : decode zb_R_take 65 = .ok (.iload_n 2, 1) := by decide +kernel
theorem ze_R_take_66 : decode zb_R_take 66 = .ok (.aload_n 1, 1) := by decide +kernel
theorem ze_R_take_67 : decode zb_R_take 67 = .ok (.getfield 37, 3) := by decide +kernel
theorem ze_R_take_70 : decode zb_R_take 70 = .ok (.iload_n 3, 1) := by decide +kernel
theorem ze_R_take_71 : decode zb_R_take 71 = .ok (.iaload, 1) := by decide +kernel
theorem ze_R_take_72 : decode zb_R_take 72 = .ok (.ldc2_w 44, 3) := by decide +kernel
theorem ze_R_take_75 : decode zb_R_take 75 = .ok (.invokevirtual 40, 3) := by decide +kernel
theorem ze_R_take_78 : decode zb_R_take 78 = .ok (.lastore, 1) := by decide +kernel
theorem ze_R_take_79 : decode zb_R_take 79 = .ok (.aload_n 1, 1) := by decide +kernel
theorem ze_R_take_80 : decode zb_R_take 80 = .ok (.getfield 37, 3) := by decide +kernel
theorem ze_R_take_83 : decode zb_R_take 83 = .ok (.iload_n 3, 1) := by decide +kernel
theorem ze_R_take_84 : decode zb_R_take 84 = .ok (.iaload, 1) := by decide +kernel
theorem ze_R_take_85 : decode zb_R_take 85 = .ok (.istore_n 2, 1) := by decide +kernel
theorem ze_R_take_86 : decode zb_R_take 86 = .ok (.iinc 3 1, 3) := by decide +kernel
theorem ze_R_take_89 : decode zb_R_take 89 = .ok (.goto (-77), 3) := by decide +kernel
theorem ze_R_take_92 : decode zb_R_take 92 = .ok (.return_, 1) := by decide +kernel
theorem ze_R_work_0 : decode zb_R_work 0 = .ok (.iconst 0, 1) := by decide +kernel
theorem ze_R_work_1 : decode zb_R_work 1 = .ok (.istore 6, 2) := by decide +kernel
theorem ze_R_work_3 : decode zb_R_work 3 = .ok (.iload_n 2, 1) := by decide +kernel
theorem ze_R_work_4 : decode zb_R_work 4 = .ok (.istore 7, 2) := by decide +kernel
theorem ze_R_work_6 : decode zb_R_work 6 = .ok (.iload 7, 2) := by decide +kernel
theorem ze_R_work_8 : decode zb_R_work 8 = .ok (.iload_n 3, 1) := by decide +kernel
theorem ze_R_work_9 : decode zb_R_work 9 = .ok (.if_icmp .ge 158, 3) := by decide +kernel
theorem ze_R_work_12 : decode zb_R_work 12 = .ok (.aload_n 1, 1) := by decide +kernel
theorem ze_R_work_13 : decode zb_R_work 13 = .ok (.getfield 46, 3) := by decide +kernel
theorem ze_R_work_16 : decode zb_R_work 16 = .ok (.iload 7, 2) := by decide +kernel
theorem ze_R_work_18 : decode zb_R_work 18 = .ok (.caload, 1) := by decide +kernel
theorem ze_R_work_19 : decode zb_R_work 19 = .ok (.istore 8, 2) := by decide +kernel
theorem ze_R_work_21 : decode zb_R_work 21 = .ok (.iload 8, 2) := by decide +kernel
theorem ze_R_work_23 : decode zb_R_work 23 = .ok (.bipush 33, 2) := by decide +kernel
theorem ze_R_work_25 : decode zb_R_work 25 = .ok (.if_icmp .ne 34, 3) := by decide +kernel
theorem ze_R_work_28 : decode zb_R_work 28 = .ok (.iload 6, 2) := by decide +kernel
theorem ze_R_work_30 : decode zb_R_work 30 = .ok (.iconst 1, 1) := by decide +kernel
theorem ze_R_work_31 : decode zb_R_work 31 = .ok (.if_icmp .lt 28, 3) := by decide +kernel
theorem ze_R_work_34 : decode zb_R_work 34 = .ok (.aload_n 0, 1) := by decide +kernel
theorem ze_R_work_35 : decode zb_R_work 35 = .ok (.getfield 26, 3) := by decide +kernel
theorem ze_R_work_38 : decode zb_R_work 38 = .ok (.iload 6, 2) := by decide +kernel
theorem ze_R_work_40 : decode zb_R_work 40 = .ok (.iconst 1, 1) := by decide +kernel
theorem ze_R_work_41 : decode zb_R_work 41 = .ok (.isub, 1) := by decide +kernel
theorem ze_R_work_42 : decode zb_R_work 42 = .ok (.aload_n 0, 1) := by decide +kernel
theorem ze_R_work_43 : decode zb_R_work 43 = .ok (.getfield 26, 3) := by decide +kernel
theorem ze_R_work_46 : decode zb_R_work 46 = .ok (.iload 6, 2) := by decide +kernel
theorem ze_R_work_48 : decode zb_R_work 48 = .ok (.iconst 1, 1) := by decide +kernel
theorem ze_R_work_49 : decode zb_R_work 49 = .ok (.isub, 1) := by decide +kernel
theorem ze_R_work_50 : decode zb_R_work 50 = .ok (.laload, 1) := by decide +kernel
theorem ze_R_work_51 : decode zb_R_work 51 = .ok (.ldc2_w 44, 3) := by decide +kernel
theorem ze_R_work_54 : decode zb_R_work 54 = .ok (.lxor, 1) := by decide +kernel
theorem ze_R_work_55 : decode zb_R_work 55 = .ok (.lastore, 1) := by decide +kernel
theorem ze_R_work_56 : decode zb_R_work 56 = .ok (.goto 105, 3) := by decide +kernel
theorem ze_R_work_59 : decode zb_R_work 59 = .ok (.iload 8, 2) := by decide +kernel
theorem ze_R_work_61 : decode zb_R_work 61 = .ok (.bipush 38, 2) := by decide +kernel
theorem ze_R_work_63 : decode zb_R_work 63 = .ok (.if_icmp .ne 34, 3) := by decide +kernel
theorem ze_R_work_66 : decode zb_R_work 66 = .ok (.iload 6, 2) := by decide +kernel
theorem ze_R_work_68 : decode zb_R_work 68 = .ok (.iconst 2, 1) := by decide +kernel
theorem ze_R_work_69 : decode zb_R_work 69 = .ok (.if_icmp .lt 28, 3) := by decide +kernel
theorem ze_R_work_72 : decode zb_R_work 72 = .ok (.iinc 6 (-1), 3) := by decide +kernel
theorem ze_R_work_75 : decode zb_R_work 75 = .ok (.aload_n 0, 1) := by decide +kernel
theorem ze_R_work_76 : decode zb_R_work 76 = .ok (.getfield 26, 3) := by decide +kernel
theorem ze_R_work_79 : decode zb_R_work 79 = .ok (.iload 6, 2) := by decide +kernel
theorem ze_R_work_81 : decode zb_R_work 81 = .ok (.iconst 1, 1) := by decide +kernel
theorem ze_R_work_82 : decode zb_R_work 82 = .ok (.isub, 1) := by decide +kernel
theorem ze_R_work_83 : decode zb_R_work 83 = .ok (.dup2, 1) := by decide +kernel
theorem ze_R_work_84 : decode zb_R_work 84 = .ok (.laload, 1) := by decide +kernel
theorem ze_R_work_85 : decode zb_R_work 85 = .ok (.aload_n 0, 1) := by decide +kernel
theorem ze_R_work_86 : decode zb_R_work 86 = .ok (.getfield 26, 3) := by decide +kernel
theorem ze_R_work_89 : decode zb_R_work 89 = .ok (.iload 6, 2) := by decide +kernel
theorem ze_R_work_91 : decode zb_R_work 91 = .ok (.laload, 1) := by decide +kernel
theorem ze_R_work_92 : decode zb_R_work 92 = .ok (.land, 1) := by decide +kernel
theorem ze_R_work_93 : decode zb_R_work 93 = .ok (.lastore, 1) := by decide +kernel
theorem ze_R_work_94 : decode zb_R_work 94 = .ok (.goto 67, 3) := by decide +kernel
theorem ze_R_work_97 : decode zb_R_work 97 = .ok (.iload 8, 2) := by decide +kernel
theorem ze_R_work_99 : decode zb_R_work 99 = .ok (.bipush 124, 2) := by decide +kernel
theorem ze_R_work_101 : decode zb_R_work 101 = .ok (.if_icmp .ne 34, 3) := by decide +kernel
theorem ze_R_work_104 : decode zb_R_work 104 = .ok (.iload 6, 2) := by decide +kernel
theorem ze_R_work_106 : decode zb_R_work 106 = .ok (.iconst 2, 1) := by decide +kernel
theorem ze_R_work_107 : decode zb_R_work 107 = .ok (.if_icmp .lt 28, 3) := by decide +kernel
theorem ze_R_work_110 : decode zb_R_work 110 = .ok (.iinc 6 (-1), 3) := by decide +kernel
theorem ze_R_work_113 : decode zb_R_work 113 = .ok (.aload_n 0, 1) := by decide +kernel
theorem ze_R_work_114 : decode zb_R_work 114 = .ok (.getfield 26, 3) := by decide +kernel
theorem ze_R_work_117 : decode zb_R_work 117 = .ok (.iload 6, 2) := by decide +kernel
theorem ze_R_work_119 : decode zb_R_work 119 = .ok (.iconst 1, 1) := by decide +kernel
theorem ze_R_work_120 : decode zb_R_work 120 = .ok (.isub, 1) := by decide +kernel
theorem ze_R_work_121 : decode zb_R_work 121 = .ok (.dup2, 1) := by decide +kernel
theorem ze_R_work_122 : decode zb_R_work 122 = .ok (.laload, 1) := by decide +kernel
theorem ze_R_work_123 : decode zb_R_work 123 = .ok (.aload_n 0, 1) := by decide +kernel
theorem ze_R_work_124 : decode zb_R_work 124 = .ok (.getfield 26, 3) := by decide +kernel
theorem ze_R_work_127 : decode zb_R_work 127 = .ok (.iload 6, 2) := by decide +kernel
theorem ze_R_work_129 : decode zb_R_work 129 = .ok (.laload, 1) := by decide +kernel
theorem ze_R_work_130 : decode zb_R_work 130 = .ok (.lor, 1) := by decide +kernel
theorem ze_R_work_131 : decode zb_R_work 131 = .ok (.lastore, 1) := by decide +kernel
theorem ze_R_work_132 : decode zb_R_work 132 = .ok (.goto 29, 3) := by decide +kernel
theorem ze_R_work_135 : decode zb_R_work 135 = .ok (.iload 6, 2) := by decide +kernel
theorem ze_R_work_137 : decode zb_R_work 137 = .ok (.sipush 240, 3) := by decide +kernel
theorem ze_R_work_140 : decode zb_R_work 140 = .ok (.if_icmp .ge 21, 3) := by decide +kernel
theorem ze_R_work_143 : decode zb_R_work 143 = .ok (.aload_n 0, 1) := by decide +kernel
theorem ze_R_work_144 : decode zb_R_work 144 = .ok (.getfield 26, 3) := by decide +kernel
theorem ze_R_work_147 : decode zb_R_work 147 = .ok (.iload 6, 2) := by decide +kernel
theorem ze_R_work_149 : decode zb_R_work 149 = .ok (.aload_n 1, 1) := by decide +kernel
theorem ze_R_work_150 : decode zb_R_work 150 = .ok (.iload 8, 2) := by decide +kernel
theorem ze_R_work_152 : decode zb_R_work 152 = .ok (.lload 4, 2) := by decide +kernel
theorem ze_R_work_154 : decode zb_R_work 154 = .ok (.invokestatic 49, 3) := by decide +kernel
theorem ze_R_work_157 : decode zb_R_work 157 = .ok (.lastore, 1) := by decide +kernel
theorem ze_R_work_158 : decode zb_R_work 158 = .ok (.iinc 6 1, 3) := by decide +kernel
theorem ze_R_work_161 : decode zb_R_work 161 = .ok (.iinc 7 1, 3) := by decide +kernel
theorem ze_R_work_164 : decode zb_R_work 164 = .ok (.goto (-158), 3) := by decide +kernel
theorem ze_R_work_167 : decode zb_R_work 167 = .ok (.aload_n 0, 1) := by decide +kernel
theorem ze_R_work_168 : decode zb_R_work 168 = .ok (.getfield 26, 3) := by decide +kernel
theorem ze_R_work_171 : decode zb_R_work 171 = .ok (.iconst 0, 1) := by decide +kernel
theorem ze_R_work_172 : decode zb_R_work 172 = .ok (.laload, 1) := by decide +kernel
theorem ze_R_work_173 : decode zb_R_work 173 = .ok (.lreturn, 1) := by decide +kernel
theorem ze_R_leafBits_0 : decode zb_R_leafBits 0 = .ok (.iload_n 1, 1) := by decide +kernel
theorem ze_R_leafBits_1 : decode zb_R_leafBits 1 = .ok (.bipush 48, 2) := by decide +kernel
theorem ze_R_leafBits_3 : decode zb_R_leafBits 3 = .ok (.if_icmp .ne 5, 3) := by decide +kernel
theorem ze_R_leafBits_6 : decode zb_R_leafBits 6 = .ok (.lconst 0, 1) := by decide +kernel
theorem ze_R_leafBits_7 : decode zb_R_leafBits 7 = .ok (.lreturn, 1) := by decide +kernel
theorem ze_R_leafBits_8 : decode zb_R_leafBits 8 = .ok (.iload_n 1, 1) := by decide +kernel
theorem ze_R_leafBits_9 : decode zb_R_leafBits 9 = .ok (.bipush 49, 2) := by decide +kernel
theorem ze_R_leafBits_11 : decode zb_R_leafBits 11 = .ok (.if_icmp .ne 7, 3) := by decide +kernel
theorem ze_R_leafBits_14 : decode zb_R_leafBits 14 = .ok (.ldc2_w 44, 3) := by decide +kernel
theorem ze_R_leafBits_17 : decode zb_R_leafBits 17 = .ok (.lreturn, 1) := by decide +kernel
theorem ze_R_leafBits_18 : decode zb_R_leafBits 18 = .ok (.iload_n 1, 1) := by decide +kernel
theorem ze_R_leafBits_19 : decode zb_R_leafBits 19 = .ok (.aload_n 0, 1) := by decide +kernel
theorem ze_R_leafBits_20 : decode zb_R_leafBits 20 = .ok (.getfield 36, 3) := by decide +kernel
theorem ze_R_leafBits_23 : decode zb_R_leafBits 23 = .ok (.aload_n 0, 1) := by decide +kernel
theorem ze_R_leafBits_24 : decode zb_R_leafBits 24 = .ok (.getfield 29, 3) := by decide +kernel
theorem ze_R_leafBits_27 : decode zb_R_leafBits 27 = .ok (.invokestatic 53, 3) := by decide +kernel
theorem ze_R_leafBits_30 : decode zb_R_leafBits 30 = .ok (.istore 4, 2) := by decide +kernel
theorem ze_R_leafBits_32 : decode zb_R_leafBits 32 = .ok (.iload 4, 2) := by decide +kernel
theorem ze_R_leafBits_34 : decode zb_R_leafBits 34 = .ok (.ifCond .lt 21, 3) := by decide +kernel
theorem ze_R_leafBits_37 : decode zb_R_leafBits 37 = .ok (.iload 4, 2) := by decide +kernel
theorem ze_R_leafBits_39 : decode zb_R_leafBits 39 = .ok (.getstatic 57, 3) := by decide +kernel
theorem ze_R_leafBits_42 : decode zb_R_leafBits 42 = .ok (.arraylength, 1) := by decide +kernel
theorem ze_R_leafBits_43 : decode zb_R_leafBits 43 = .ok (.if_icmp .ge 12, 3) := by decide +kernel
theorem ze_R_leafBits_46 : decode zb_R_leafBits 46 = .ok (.getstatic 57, 3) := by decide +kernel
theorem ze_R_leafBits_49 : decode zb_R_leafBits 49 = .ok (.iload 4, 2) := by decide +kernel
theorem ze_R_leafBits_51 : decode zb_R_leafBits 51 = .ok (.laload, 1) := by decide +kernel
theorem ze_R_leafBits_52 : decode zb_R_leafBits 52 = .ok (.goto 4, 3) := by decide +kernel
theorem ze_R_leafBits_55 : decode zb_R_leafBits 55 = .ok (.lload_n 2, 1) := by decide +kernel
theorem ze_R_leafBits_56 : decode zb_R_leafBits 56 = .ok (.lreturn, 1) := by decide +kernel
theorem ze_R_hasGene_0 : decode zb_R_hasGene 0 = .ok (.iload_n 1, 1) := by decide +kernel
theorem ze_R_hasGene_1 : decode zb_R_hasGene 1 = .ok (.ifCond .lt 15, 3) := by decide +kernel
theorem ze_R_hasGene_4 : decode zb_R_hasGene 4 = .ok (.iload_n 1, 1) := by decide +kernel
theorem ze_R_hasGene_5 : decode zb_R_hasGene 5 = .ok (.aload_n 0, 1) := by decide +kernel
theorem ze_R_hasGene_6 : decode zb_R_hasGene 6 = .ok (.getfield 35, 3) := by decide +kernel
theorem ze_R_hasGene_9 : decode zb_R_hasGene 9 = .ok (.if_icmp .ge 7, 3) := by decide +kernel
theorem ze_R_hasGene_12 : decode zb_R_hasGene 12 = .ok (.iconst 1, 1) := by decide +kernel
theorem ze_R_hasGene_13 : decode zb_R_hasGene 13 = .ok (.goto 4, 3) := by decide +kernel
theorem ze_R_hasGene_16 : decode zb_R_hasGene 16 = .ok (.iconst 0, 1) := by decide +kernel
theorem ze_R_hasGene_17 : decode zb_R_hasGene 17 = .ok (.ireturn, 1) := by decide +kernel
theorem ze_R_hasState_0 : decode zb_R_hasState 0 = .ok (.aload_n 0, 1) := by decide +kernel
theorem ze_R_hasState_1 : decode zb_R_hasState 1 = .ok (.getfield 35, 3) := by decide +kernel
theorem ze_R_hasState_4 : decode zb_R_hasState 4 = .ok (.ifCond .le 21, 3) := by decide +kernel
theorem ze_R_hasState_7 : decode zb_R_hasState 7 = .ok (.iload_n 1, 1) := by decide +kernel
theorem ze_R_hasState_8 : decode zb_R_hasState 8 = .ok (.ifCond .lt 17, 3) := by decide +kernel
theorem ze_R_hasState_11 : decode zb_R_hasState 11 = .ok (.iload_n 1, 1) := by decide +kernel
theorem ze_R_hasState_12 : decode zb_R_hasState 12 = .ok (.iconst 1, 1) := by decide +kernel
theorem ze_R_hasState_13 : decode zb_R_hasState 13 = .ok (.aload_n 0, 1) := by decide +kernel
theorem ze_R_hasState_14 : decode zb_R_hasState 14 = .ok (.getfield 35, 3) := by decide +kernel
theorem ze_R_hasState_17 : decode zb_R_hasState 17 = .ok (.ishl, 1) := by decide +kernel
theorem ze_R_hasState_18 : decode zb_R_hasState 18 = .ok (.if_icmp .ge 7, 3) := by decide +kernel
theorem ze_R_hasState_21 : decode zb_R_hasState 21 = .ok (.iconst 1, 1) := by decide +kernel
theorem ze_R_hasState_22 : decode zb_R_hasState 22 = .ok (.goto 4, 3) := by decide +kernel
theorem ze_R_hasState_25 : decode zb_R_hasState 25 = .ok (.iconst 0, 1) := by decide +kernel
theorem ze_R_hasState_26 : decode zb_R_hasState 26 = .ok (.ireturn, 1) := by decide +kernel
theorem ze_R_valueOf_0 : decode zb_R_valueOf 0 = .ok (.aload_n 0, 1) := by decide +kernel
theorem ze_R_valueOf_1 : decode zb_R_valueOf 1 = .ok (.getfield 15, 3) := by decide +kernel
theorem ze_R_valueOf_4 : decode zb_R_valueOf 4 = .ok (.iload_n 1, 1) := by decide +kernel
theorem ze_R_valueOf_5 : decode zb_R_valueOf 5 = .ok (.iaload, 1) := by decide +kernel
theorem ze_R_valueOf_6 : decode zb_R_valueOf 6 = .ok (.iconst 2, 1) := by decide +kernel
theorem ze_R_valueOf_7 : decode zb_R_valueOf 7 = .ok (.if_icmp .eq 10, 3) := by decide +kernel
theorem ze_R_valueOf_10 : decode zb_R_valueOf 10 = .ok (.aload_n 0, 1) := by decide +kernel
theorem ze_R_valueOf_11 : decode zb_R_valueOf 11 = .ok (.getfield 15, 3) := by decide +kernel
theorem ze_R_valueOf_14 : decode zb_R_valueOf 14 = .ok (.iload_n 1, 1) := by decide +kernel
theorem ze_R_valueOf_15 : decode zb_R_valueOf 15 = .ok (.iaload, 1) := by decide +kernel
theorem ze_R_valueOf_16 : decode zb_R_valueOf 16 = .ok (.ireturn, 1) := by decide +kernel
theorem ze_R_valueOf_17 : decode zb_R_valueOf 17 = .ok (.aload_n 0, 1) := by decide +kernel
theorem ze_R_valueOf_18 : decode zb_R_valueOf 18 = .ok (.getfield 19, 3) := by decide +kernel
theorem ze_R_valueOf_21 : decode zb_R_valueOf 21 = .ok (.iload_n 1, 1) := by decide +kernel
theorem ze_R_valueOf_22 : decode zb_R_valueOf 22 = .ok (.laload, 1) := by decide +kernel
theorem ze_R_valueOf_23 : decode zb_R_valueOf 23 = .ok (.aload_n 0, 1) := by decide +kernel
theorem ze_R_valueOf_24 : decode zb_R_valueOf 24 = .ok (.getfield 23, 3) := by decide +kernel
theorem ze_R_valueOf_27 : decode zb_R_valueOf 27 = .ok (.iload_n 1, 1) := by decide +kernel
theorem ze_R_valueOf_28 : decode zb_R_valueOf 28 = .ok (.laload, 1) := by decide +kernel
theorem ze_R_valueOf_29 : decode zb_R_valueOf 29 = .ok (.iload_n 2, 1) := by decide +kernel
theorem ze_R_valueOf_30 : decode zb_R_valueOf 30 = .ok (.invokestatic 60, 3) := by decide +kernel
theorem ze_R_valueOf_33 : decode zb_R_valueOf 33 = .ok (.ireturn, 1) := by decide +kernel
theorem ze_R_stepTogether_0 : decode zb_R_stepTogether 0 = .ok (.iconst 0, 1) := by decide +kernel
theorem ze_R_stepTogether_1 : decode zb_R_stepTogether 1 = .ok (.istore_n 2, 1) := by decide +kernel
theorem ze_R_stepTogether_2 : decode zb_R_stepTogether 2 = .ok (.iconst 0, 1) := by decide +kernel
theorem ze_R_stepTogether_3 : decode zb_R_stepTogether 3 = .ok (.istore_n 3, 1) := by decide +kernel
theorem ze_R_stepTogether_4 : decode zb_R_stepTogether 4 = .ok (.iload_n 3, 1) := by decide +kernel
theorem ze_R_stepTogether_5 : decode zb_R_stepTogether 5 = .ok (.aload_n 0, 1) := by decide +kernel
theorem ze_R_stepTogether_6 : decode zb_R_stepTogether 6 = .ok (.getfield 35, 3) := by decide +kernel
theorem ze_R_stepTogether_9 : decode zb_R_stepTogether 9 = .ok (.if_icmp .ge 20, 3) := by decide +kernel
theorem ze_R_stepTogether_12 : decode zb_R_stepTogether 12 = .ok (.iload_n 2, 1) := by decide +kernel
theorem ze_R_stepTogether_13 : decode zb_R_stepTogether 13 = .ok (.aload_n 0, 1) := by decide +kernel
theorem ze_R_stepTogether_14 : decode zb_R_stepTogether 14 = .ok (.iload_n 3, 1) := by decide +kernel
theorem ze_R_stepTogether_15 : decode zb_R_stepTogether 15 = .ok (.iload_n 1, 1) := by decide +kernel
theorem ze_R_stepTogether_16 : decode zb_R_stepTogether 16 = .ok (.invokevirtual 64, 3) := by decide +kernel
theorem ze_R_stepTogether_19 : decode zb_R_stepTogether 19 = .ok (.iload_n 3, 1) := by decide +kernel
theorem ze_R_stepTogether_20 : decode zb_R_stepTogether 20 = .ok (.ishl, 1) := by decide +kernel
theorem ze_R_stepTogether_21 : decode zb_R_stepTogether 21 = .ok (.ior, 1) := by decide +kernel
theorem ze_R_stepTogether_22 : decode zb_R_stepTogether 22 = .ok (.istore_n 2, 1) := by decide +kernel
theorem ze_R_stepTogether_23 : decode zb_R_stepTogether 23 = .ok (.iinc 3 1, 3) := by decide +kernel
theorem ze_R_stepTogether_26 : decode zb_R_stepTogether 26 = .ok (.goto (-22), 3) := by decide +kernel
theorem ze_R_stepTogether_29 : decode zb_R_stepTogether 29 = .ok (.iload_n 2, 1) := by decide +kernel
theorem ze_R_stepTogether_30 : decode zb_R_stepTogether 30 = .ok (.ireturn, 1) := by decide +kernel
theorem ze_A_forget_0 : decode zb_A_forget 0 = .ok (.aload_n 0, 1) := by decide +kernel
theorem ze_A_forget_1 : decode zb_A_forget 1 = .ok (.iconst 0, 1) := by decide +kernel
theorem ze_A_forget_2 : decode zb_A_forget 2 = .ok (.putfield 25, 3) := by decide +kernel
theorem ze_A_forget_5 : decode zb_A_forget 5 = .ok (.aload_n 0, 1) := by decide +kernel
theorem ze_A_forget_6 : decode zb_A_forget 6 = .ok (.iconst 0, 1) := by decide +kernel
theorem ze_A_forget_7 : decode zb_A_forget 7 = .ok (.putfield 29, 3) := by decide +kernel
theorem ze_A_forget_10 : decode zb_A_forget 10 = .ok (.return_, 1) := by decide +kernel
theorem ze_A_run_0 : decode zb_A_run 0 = .ok (.aload_n 0, 1) := by decide +kernel
theorem ze_A_run_1 : decode zb_A_run 1 = .ok (.aload_n 1, 1) := by decide +kernel
theorem ze_A_run_2 : decode zb_A_run 2 = .ok (.getfield 32, 3) := by decide +kernel
theorem ze_A_run_5 : decode zb_A_run 5 = .ok (.putfield 35, 3) := by decide +kernel
theorem ze_A_run_8 : decode zb_A_run 8 = .ok (.aload_n 0, 1) := by decide +kernel
theorem ze_A_run_9 : decode zb_A_run 9 = .ok (.iconst 1, 1) := by decide +kernel
theorem ze_A_run_10 : decode zb_A_run 10 = .ok (.aload_n 0, 1) := by decide +kernel
theorem ze_A_run_11 : decode zb_A_run 11 = .ok (.getfield 35, 3) := by decide +kernel
theorem ze_A_run_14 : decode zb_A_run 14 = .ok (.ishl, 1) := by decide +kernel
theorem ze_A_run_15 : decode zb_A_run 15 = .ok (.putfield 25, 3) := by decide +kernel
theorem ze_A_run_18 : decode zb_A_run 18 = .ok (.iconst 0, 1) := by decide +kernel
theorem ze_A_run_19 : decode zb_A_run 19 = .ok (.istore_n 3, 1) := by decide +kernel
theorem ze_A_run_20 : decode zb_A_run 20 = .ok (.iload_n 3, 1) := by decide +kernel
theorem ze_A_run_21 : decode zb_A_run 21 = .ok (.aload_n 0, 1) := by decide +kernel
theorem ze_A_run_22 : decode zb_A_run 22 = .ok (.getfield 25, 3) := by decide +kernel
theorem ze_A_run_25 : decode zb_A_run 25 = .ok (.if_icmp .ge 20, 3) := by decide +kernel
theorem ze_A_run_28 : decode zb_A_run 28 = .ok (.aload_n 0, 1) := by decide +kernel
theorem ze_A_run_29 : decode zb_A_run 29 = .ok (.iload_n 3, 1) := by decide +kernel
theorem ze_A_run_30 : decode zb_A_run 30 = .ok (.aload_n 1, 1) := by decide +kernel
theorem ze_A_run_31 : decode zb_A_run 31 = .ok (.iload_n 3, 1) := by decide +kernel
theorem ze_A_run_32 : decode zb_A_run 32 = .ok (.invokevirtual 38, 3) := by decide +kernel
theorem ze_A_run_35 : decode zb_A_run 35 = .ok (.iload_n 2, 1) := by decide +kernel
theorem ze_A_run_36 : decode zb_A_run 36 = .ok (.invokevirtual 42, 3) := by decide +kernel
theorem ze_A_run_39 : decode zb_A_run 39 = .ok (.iinc 3 1, 3) := by decide +kernel
theorem ze_A_run_42 : decode zb_A_run 42 = .ok (.goto (-22), 3) := by decide +kernel
theorem ze_A_run_45 : decode zb_A_run 45 = .ok (.aload_n 0, 1) := by decide +kernel
theorem ze_A_run_46 : decode zb_A_run 46 = .ok (.invokevirtual 46, 3) := by decide +kernel
theorem ze_A_run_49 : decode zb_A_run 49 = .ok (.aload_n 0, 1) := by decide +kernel
theorem ze_A_run_50 : decode zb_A_run 50 = .ok (.invokevirtual 49, 3) := by decide +kernel
theorem ze_A_run_53 : decode zb_A_run 53 = .ok (.return_, 1) := by decide +kernel
theorem ze_A_markSteps_0 : decode zb_A_markSteps 0 = .ok (.aload_n 0, 1) := by decide +kernel
theorem ze_A_markSteps_1 : decode zb_A_markSteps 1 = .ok (.getfield 9, 3) := by decide +kernel
theorem ze_A_markSteps_4 : decode zb_A_markSteps 4 = .ok (.iload_n 1, 1) := by decide +kernel
theorem ze_A_markSteps_5 : decode zb_A_markSteps 5 = .ok (.lconst 0, 1) := by decide +kernel
theorem ze_A_markSteps_6 : decode zb_A_markSteps 6 = .ok (.lastore, 1) := by decide +kernel
theorem ze_A_markSteps_7 : decode zb_A_markSteps 7 = .ok (.aload_n 0, 1) := by decide +kernel
theorem ze_A_markSteps_8 : decode zb_A_markSteps 8 = .ok (.getfield 15, 3) := by decide +kernel
theorem ze_A_markSteps_11 : decode zb_A_markSteps 11 = .ok (.iload_n 1, 1) := by decide +kernel
theorem ze_A_markSteps_12 : decode zb_A_markSteps 12 = .ok (.lconst 0, 1) := by decide +kernel
theorem ze_A_markSteps_13 : decode zb_A_markSteps 13 = .ok (.lastore, 1) := by decide +kernel
theorem ze_A_markSteps_14 : decode zb_A_markSteps 14 = .ok (.aload_n 0, 1) := by decide +kernel
theorem ze_A_markSteps_15 : decode zb_A_markSteps 15 = .ok (.iload_n 1, 1) := by decide +kernel
theorem ze_A_markSteps_16 : decode zb_A_markSteps 16 = .ok (.iload_n 1, 1) := by decide +kernel
theorem ze_A_markSteps_17 : decode zb_A_markSteps 17 = .ok (.invokevirtual 52, 3) := by decide +kernel
theorem ze_A_markSteps_20 : decode zb_A_markSteps 20 = .ok (.iload_n 3, 1) := by decide +kernel
theorem ze_A_markSteps_21 : decode zb_A_markSteps 21 = .ok (.ifCond .ne 10, 3) := by decide +kernel
theorem ze_A_markSteps_24 : decode zb_A_markSteps 24 = .ok (.aload_n 0, 1) := by decide +kernel
theorem ze_A_markSteps_25 : decode zb_A_markSteps 25 = .ok (.iload_n 1, 1) := by decide +kernel
theorem ze_A_markSteps_26 : decode zb_A_markSteps 26 = .ok (.iload_n 2, 1) := by decide +kernel
theorem ze_A_markSteps_27 : decode zb_A_markSteps 27 = .ok (.invokevirtual 52, 3) := by decide +kernel
theorem ze_A_markSteps_30 : decode zb_A_markSteps 30 = .ok (.return_, 1) := by decide +kernel
theorem ze_A_markSteps_31 : decode zb_A_markSteps 31 = .ok (.iconst 0, 1) := by decide +kernel
theorem ze_A_markSteps_32 : decode zb_A_markSteps 32 = .ok (.istore 4, 2) := by decide +kernel
theorem ze_A_markSteps_34 : decode zb_A_markSteps 34 = .ok (.iload 4, 2) := by decide +kernel
theorem ze_A_markSteps_36 : decode zb_A_markSteps 36 = .ok (.aload_n 0, 1) := by decide +kernel
theorem ze_A_markSteps_37 : decode zb_A_markSteps 37 = .ok (.getfield 35, 3) := by decide +kernel
theorem ze_A_markSteps_40 : decode zb_A_markSteps 40 = .ok (.if_icmp .ge 31, 3) := by decide +kernel
theorem ze_A_markSteps_43 : decode zb_A_markSteps 43 = .ok (.iconst 1, 1) := by decide +kernel
theorem ze_A_markSteps_44 : decode zb_A_markSteps 44 = .ok (.iload 4, 2) := by decide +kernel
theorem ze_A_markSteps_46 : decode zb_A_markSteps 46 = .ok (.ishl, 1) := by decide +kernel
theorem ze_A_markSteps_47 : decode zb_A_markSteps 47 = .ok (.istore 5, 2) := by decide +kernel
theorem ze_A_markSteps_49 : decode zb_A_markSteps 49 = .ok (.aload_n 0, 1) := by decide +kernel
theorem ze_A_markSteps_50 : decode zb_A_markSteps 50 = .ok (.iload_n 1, 1) := by decide +kernel
theorem ze_A_markSteps_51 : decode zb_A_markSteps 51 = .ok (.iload_n 1, 1) := by decide +kernel
theorem ze_A_markSteps_52 : decode zb_A_markSteps 52 = .ok (.iload 5, 2) := by decide +kernel
theorem ze_A_markSteps_54 : decode zb_A_markSteps 54 = .ok (.iconst (-1), 1) := by decide +kernel
theorem ze_A_markSteps_55 : decode zb_A_markSteps 55 = .ok (.ixor, 1) := by decide +kernel
theorem ze_A_markSteps_56 : decode zb_A_markSteps 56 = .ok (.iand, 1) := by decide +kernel
theorem ze_A_markSteps_57 : decode zb_A_markSteps 57 = .ok (.iload_n 2, 1) := by decide +kernel
theorem ze_A_markSteps_58 : decode zb_A_markSteps 58 = .ok (.iload 5, 2) := by decide +kernel
theorem ze_A_markSteps_60 : decode zb_A_markSteps 60 = .ok (.iand, 1) := by decide +kernel
theorem ze_A_markSteps_61 : decode zb_A_markSteps 61 = .ok (.ior, 1) := by decide +kernel
theorem ze_A_markSteps_62 : decode zb_A_markSteps 62 = .ok (.invokevirtual 52, 3) := by decide +kernel
theorem ze_A_markSteps_65 : decode zb_A_markSteps 65 = .ok (.iinc 4 1, 3) := by decide +kernel
theorem ze_A_markSteps_68 : decode zb_A_markSteps 68 = .ok (.goto (-34), 3) := by decide +kernel
theorem ze_A_markSteps_71 : decode zb_A_markSteps 71 = .ok (.return_, 1) := by decide +kernel
theorem ze_A_markLeading_0 : decode zb_A_markLeading 0 = .ok (.iload_n 2, 1) := by decide +kernel
theorem ze_A_markLeading_1 : decode zb_A_markLeading 1 = .ok (.bipush 64, 2) := by decide +kernel
theorem ze_A_markLeading_3 : decode zb_A_markLeading 3 = .ok (.if_icmp .ge 18, 3) := by decide +kernel
theorem ze_A_markLeading_6 : decode zb_A_markLeading 6 = .ok (.aload_n 0, 1) := by decide +kernel
theorem ze_A_markLeading_7 : decode zb_A_markLeading 7 = .ok (.getfield 9, 3) := by decide +kernel
theorem ze_A_markLeading_10 : decode zb_A_markLeading 10 = .ok (.iload_n 1, 1) := by decide +kernel
theorem ze_A_markLeading_11 : decode zb_A_markLeading 11 = .ok (.dup2, 1) := by decide +kernel
theorem ze_A_markLeading_12 : decode zb_A_markLeading 12 = .ok (.laload, 1) := by decide +kernel
theorem ze_A_markLeading_13 : decode zb_A_markLeading 13 = .ok (.lconst 1, 1) := by decide +kernel
theorem ze_A_markLeading_14 : decode zb_A_markLeading 14 = .ok (.iload_n 2, 1) := by decide +kernel
theorem ze_A_markLeading_15 : decode zb_A_markLeading 15 = .ok (.lshl, 1) := by decide +kernel
theorem ze_A_markLeading_16 : decode zb_A_markLeading 16 = .ok (.lor, 1) := by decide +kernel
theorem ze_A_markLeading_17 : decode zb_A_markLeading 17 = .ok (.lastore, 1) := by decide +kernel
theorem ze_A_markLeading_18 : decode zb_A_markLeading 18 = .ok (.goto 18, 3) := by decide +kernel
theorem ze_A_markLeading_21 : decode zb_A_markLeading 21 = .ok (.aload_n 0, 1) := by decide +kernel
theorem ze_A_markLeading_22 : decode zb_A_markLeading 22 = .ok (.getfield 15, 3) := by decide +kernel
theorem ze_A_markLeading_25 : decode zb_A_markLeading 25 = .ok (.iload_n 1, 1) := by decide +kernel
theorem ze_A_markLeading_26 : decode zb_A_markLeading 26 = .ok (.dup2, 1) := by decide +kernel
theorem ze_A_markLeading_27 : decode zb_A_markLeading 27 = .ok (.laload, 1) := by decide +kernel
theorem ze_A_markLeading_28 : decode zb_A_markLeading 28 = .ok (.lconst 1, 1) := by decide +kernel
theorem ze_A_markLeading_29 : decode zb_A_markLeading 29 = .ok (.iload_n 2, 1) := by decide +kernel
theorem ze_A_markLeading_30 : decode zb_A_markLeading 30 = .ok (.bipush 63, 2) := by decide +kernel
theorem ze_A_markLeading_32 : decode zb_A_markLeading 32 = .ok (.iand, 1) := by decide +kernel
theorem ze_A_markLeading_33 : decode zb_A_markLeading 33 = .ok (.lshl, 1) := by decide +kernel
theorem ze_A_markLeading_34 : decode zb_A_markLeading 34 = .ok (.lor, 1) := by decide +kernel
theorem ze_A_markLeading_35 : decode zb_A_markLeading 35 = .ok (.lastore, 1) := by decide +kernel
theorem ze_A_markLeading_36 : decode zb_A_markLeading 36 = .ok (.return_, 1) := by decide +kernel
theorem ze_A_joinSteps_0 : decode zb_A_joinSteps 0 = .ok (.iconst 0, 1) := by decide +kernel
theorem ze_A_joinSteps_1 : decode zb_A_joinSteps 1 = .ok (.istore_n 1, 1) := by decide +kernel
theorem ze_A_joinSteps_2 : decode zb_A_joinSteps 2 = .ok (.iload_n 1, 1) := by decide +kernel
theorem ze_A_joinSteps_3 : decode zb_A_joinSteps 3 = .ok (.aload_n 0, 1) := by decide +kernel
theorem ze_A_joinSteps_4 : decode zb_A_joinSteps 4 = .ok (.getfield 25, 3) := by decide +kernel
theorem ze_A_joinSteps_7 : decode zb_A_joinSteps 7 = .ok (.if_icmp .ge 64, 3) := by decide +kernel
theorem ze_A_joinSteps_10 : decode zb_A_joinSteps 10 = .ok (.iconst 0, 1) := by decide +kernel
theorem ze_A_joinSteps_11 : decode zb_A_joinSteps 11 = .ok (.istore_n 2, 1) := by decide +kernel
theorem ze_A_joinSteps_12 : decode zb_A_joinSteps 12 = .ok (.iload_n 2, 1) := by decide +kernel
theorem ze_A_joinSteps_13 : decode zb_A_joinSteps 13 = .ok (.aload_n 0, 1) := by decide +kernel
theorem ze_A_joinSteps_14 : decode zb_A_joinSteps 14 = .ok (.getfield 25, 3) := by decide +kernel
theorem ze_A_joinSteps_17 : decode zb_A_joinSteps 17 = .ok (.if_icmp .ge 48, 3) := by decide +kernel
theorem ze_A_joinSteps_20 : decode zb_A_joinSteps 20 = .ok (.aload_n 0, 1) := by decide +kernel
theorem ze_A_joinSteps_21 : decode zb_A_joinSteps 21 = .ok (.iload_n 2, 1) := by decide +kernel
theorem ze_A_joinSteps_22 : decode zb_A_joinSteps 22 = .ok (.iload_n 1, 1) := by decide +kernel
theorem ze_A_joinSteps_23 : decode zb_A_joinSteps 23 = .ok (.invokevirtual 56, 3) := by decide +kernel
theorem ze_A_joinSteps_26 : decode zb_A_joinSteps 26 = .ok (.ifCond .eq 33, 3) := by decide +kernel
theorem ze_A_joinSteps_29 : decode zb_A_joinSteps 29 = .ok (.aload_n 0, 1) := by decide +kernel
theorem ze_A_joinSteps_30 : decode zb_A_joinSteps 30 = .ok (.getfield 9, 3) := by decide +kernel
theorem ze_A_joinSteps_33 : decode zb_A_joinSteps 33 = .ok (.iload_n 2, 1) := by decide +kernel
theorem ze_A_joinSteps_34 : decode zb_A_joinSteps 34 = .ok (.dup2, 1) := by decide +kernel
theorem ze_A_joinSteps_35 : decode zb_A_joinSteps 35 = .ok (.laload, 1) := by decide +kernel
theorem ze_A_joinSteps_36 : decode zb_A_joinSteps 36 = .ok (.aload_n 0, 1) := by decide +kernel
theorem ze_A_joinSteps_37 : decode zb_A_joinSteps 37 = .ok (.getfield 9, 3) := by decide +kernel
theorem ze_A_joinSteps_40 : decode zb_A_joinSteps 40 = .ok (.iload_n 1, 1) := by decide +kernel
theorem ze_A_joinSteps_41 : decode zb_A_joinSteps 41 = .ok (.laload, 1) := by decide +kernel
theorem ze_A_joinSteps_42 : decode zb_A_joinSteps 42 = .ok (.lor, 1) := by decide +kernel
theorem ze_A_joinSteps_43 : decode zb_A_joinSteps 43 = .ok (.lastore, 1) := by decide +kernel
theorem ze_A_joinSteps_44 : decode zb_A_joinSteps 44 = .ok (.aload_n 0, 1) := by decide +kernel
theorem ze_A_joinSteps_45 : decode zb_A_joinSteps 45 = .ok (.getfield 15, 3) := by decide +kernel
theorem ze_A_joinSteps_48 : decode zb_A_joinSteps 48 = .ok (.iload_n 2, 1) := by decide +kernel
theorem ze_A_joinSteps_49 : decode zb_A_joinSteps 49 = .ok (.dup2, 1) := by decide +kernel
theorem ze_A_joinSteps_50 : decode zb_A_joinSteps 50 = .ok (.laload, 1) := by decide +kernel
theorem ze_A_joinSteps_51 : decode zb_A_joinSteps 51 = .ok (.aload_n 0, 1) := by decide +kernel
theorem ze_A_joinSteps_52 : decode zb_A_joinSteps 52 = .ok (.getfield 15, 3) := by decide +kernel
theorem ze_A_joinSteps_55 : decode zb_A_joinSteps 55 = .ok (.iload_n 1, 1) := by decide +kernel
theorem ze_A_joinSteps_56 : decode zb_A_joinSteps 56 = .ok (.laload, 1) := by decide +kernel
theorem ze_A_joinSteps_57 : decode zb_A_joinSteps 57 = .ok (.lor, 1) := by decide +kernel
theorem ze_A_joinSteps_58 : decode zb_A_joinSteps 58 = .ok (.lastore, 1) := by decide +kernel
theorem ze_A_joinSteps_59 : decode zb_A_joinSteps 59 = .ok (.iinc 2 1, 3) := by decide +kernel
theorem ze_A_joinSteps_62 : decode zb_A_joinSteps 62 = .ok (.goto (-50), 3) := by decide +kernel
theorem ze_A_joinSteps_65 : decode zb_A_joinSteps 65 = .ok (.iinc 1 1, 3) := by decide +kernel
theorem ze_A_joinSteps_68 : decode zb_A_joinSteps 68 = .ok (.goto (-66), 3) := by decide +kernel
theorem ze_A_joinSteps_71 : decode zb_A_joinSteps 71 = .ok (.return_, 1) := by decide +kernel
theorem ze_A_findAttractors_0 : decode zb_A_findAttractors 0 = .ok (.aload_n 0, 1) := by decide +kernel
theorem ze_A_findAttractors_1 : decode zb_A_findAttractors 1 = .ok (.iconst 0, 1) := by decide +kernel
theorem ze_A_findAttractors_2 : decode zb_A_findAttractors 2 = .ok (.putfield 29, 3) := by decide +kernel
theorem ze_A_findAttractors_5 : decode zb_A_findAttractors 5 = .ok (.aload_n 0, 1) := by decide +kernel
theorem ze_A_findAttractors_6 : decode zb_A_findAttractors 6 = .ok (.lconst 0, 1) := by decide +kernel
theorem ze_A_findAttractors_7 : decode zb_A_findAttractors 7 = .ok (.putfield 60, 3) := by decide +kernel
theorem ze_A_findAttractors_10 : decode zb_A_findAttractors 10 = .ok (.aload_n 0, 1) := by decide +kernel
theorem ze_A_findAttractors_11 : decode zb_A_findAttractors 11 = .ok (.lconst 0, 1) := by decide +kernel
theorem ze_A_findAttractors_12 : decode zb_A_findAttractors 12 = .ok (.putfield 64, 3) := by decide +kernel
theorem ze_A_findAttractors_15 : decode zb_A_findAttractors 15 = .ok (.aload_n 0, 1) := by decide +kernel
theorem ze_A_findAttractors_16 : decode zb_A_findAttractors 16 = .ok (.getfield 18, 3) := by decide +kernel
theorem ze_A_findAttractors_19 : decode zb_A_findAttractors 19 = .ok (.iconst (-1), 1) := by decide +kernel
theorem ze_A_findAttractors_20 : decode zb_A_findAttractors 20 = .ok (.invokestatic 67, 3) := by decide +kernel
theorem ze_A_findAttractors_23 : decode zb_A_findAttractors 23 = .ok (.iconst 0, 1) := by decide +kernel
theorem ze_A_findAttractors_24 : decode zb_A_findAttractors 24 = .ok (.istore_n 1, 1) := by decide +kernel
theorem ze_A_findAttractors_25 : decode zb_A_findAttractors 25 = .ok (.iload_n 1, 1) := by decide +kernel
theorem ze_A_findAttractors_26 : decode zb_A_findAttractors 26 = .ok (.aload_n 0, 1) := by decide +kernel
theorem ze_A_findAttractors_27 : decode zb_A_findAttractors 27 = .ok (.getfield 25, 3) := by decide +kernel
theorem ze_A_findAttractors_30 : decode zb_A_findAttractors 30 = .ok (.if_icmp .ge 32, 3) := by decide +kernel
theorem ze_A_findAttractors_33 : decode zb_A_findAttractors 33 = .ok (.aload_n 0, 1) := by decide +kernel
theorem ze_A_findAttractors_34 : decode zb_A_findAttractors 34 = .ok (.getfield 18, 3) := by decide +kernel
theorem ze_A_findAttractors_37 : decode zb_A_findAttractors 37 = .ok (.iload_n 1, 1) := by decide +kernel
theorem ze_A_findAttractors_38 : decode zb_A_findAttractors 38 = .ok (.iaload, 1) := by decide +kernel
theorem ze_A_findAttractors_39 : decode zb_A_findAttractors 39 = .ok (.iconst (-1), 1) := by decide +kernel
theorem ze_A_findAttractors_40 : decode zb_A_findAttractors 40 = .ok (.if_icmp .ne 16, 3) := by decide +kernel
theorem ze_A_findAttractors_43 : decode zb_A_findAttractors 43 = .ok (.aload_n 0, 1) := by decide +kernel
theorem ze_A_findAttractors_44 : decode zb_A_findAttractors 44 = .ok (.iload_n 1, 1) := by decide +kernel
theorem ze_A_findAttractors_45 : decode zb_A_findAttractors 45 = .ok (.invokevirtual 73, 3) := by decide +kernel
theorem ze_A_findAttractors_48 : decode zb_A_findAttractors 48 = .ok (.ifCond .eq 8, 3) := by decide +kernel
theorem ze_A_findAttractors_51 : decode zb_A_findAttractors 51 = .ok (.aload_n 0, 1) := by decide +kernel
theorem ze_A_findAttractors_52 : decode zb_A_findAttractors 52 = .ok (.iload_n 1, 1) := by decide +kernel
theorem ze_A_findAttractors_53 : decode zb_A_findAttractors 53 = .ok (.invokevirtual 77, 3) := by decide +kernel
theorem ze_A_findAttractors_56 : decode zb_A_findAttractors 56 = .ok (.iinc 1 1, 3) := by decide +kernel
theorem ze_A_findAttractors_59 : decode zb_A_findAttractors 59 = .ok (.goto (-34), 3) := by decide +kernel
theorem ze_A_findAttractors_62 : decode zb_A_findAttractors 62 = .ok (.return_, 1) := by decide +kernel
theorem ze_A_isLedBackTo_0 : decode zb_A_isLedBackTo 0 = .ok (.iconst 0, 1) := by decide +kernel
theorem ze_A_isLedBackTo_1 : decode zb_A_isLedBackTo 1 = .ok (.istore_n 2, 1) := by decide +kernel
theorem ze_A_isLedBackTo_2 : decode zb_A_isLedBackTo 2 = .ok (.iload_n 2, 1) := by decide +kernel
theorem ze_A_isLedBackTo_3 : decode zb_A_isLedBackTo 3 = .ok (.aload_n 0, 1) := by decide +kernel
theorem ze_A_isLedBackTo_4 : decode zb_A_isLedBackTo 4 = .ok (.getfield 25, 3) := by decide +kernel
theorem ze_A_isLedBackTo_7 : decode zb_A_isLedBackTo 7 = .ok (.if_icmp .ge 29, 3) := by decide +kernel
theorem ze_A_isLedBackTo_10 : decode zb_A_isLedBackTo 10 = .ok (.aload_n 0, 1) := by decide +kernel
theorem ze_A_isLedBackTo_11 : decode zb_A_isLedBackTo 11 = .ok (.iload_n 1, 1) := by decide +kernel
theorem ze_A_isLedBackTo_12 : decode zb_A_isLedBackTo 12 = .ok (.iload_n 2, 1) := by decide +kernel
theorem ze_A_isLedBackTo_13 : decode zb_A_isLedBackTo 13 = .ok (.invokevirtual 56, 3) := by decide +kernel
theorem ze_A_isLedBackTo_16 : decode zb_A_isLedBackTo 16 = .ok (.ifCond .eq 14, 3) := by decide +kernel
theorem ze_A_isLedBackTo_19 : decode zb_A_isLedBackTo 19 = .ok (.aload_n 0, 1) := by decide +kernel
theorem ze_A_isLedBackTo_20 : decode zb_A_isLedBackTo 20 = .ok (.iload_n 2, 1) := by decide +kernel
theorem ze_A_isLedBackTo_21 : decode zb_A_isLedBackTo 21 = .ok (.iload_n 1, 1) := by decide +kernel
theorem ze_A_isLedBackTo_22 : decode zb_A_isLedBackTo 22 = .ok (.invokevirtual 56, 3) := by decide +kernel
theorem ze_A_isLedBackTo_25 : decode zb_A_isLedBackTo 25 = .ok (.ifCond .ne 5, 3) := by decide +kernel
theorem ze_A_isLedBackTo_28 : decode zb_A_isLedBackTo 28 = .ok (.iconst 0, 1) := by decide +kernel
theorem ze_A_isLedBackTo_29 : decode zb_A_isLedBackTo 29 = .ok (.ireturn, 1) := by decide +kernel
theorem ze_A_isLedBackTo_30 : decode zb_A_isLedBackTo 30 = .ok (.iinc 2 1, 3) := by decide +kernel
theorem ze_A_isLedBackTo_33 : decode zb_A_isLedBackTo 33 = .ok (.goto (-31), 3) := by decide +kernel
theorem ze_A_isLedBackTo_36 : decode zb_A_isLedBackTo 36 = .ok (.iconst 1, 1) := by decide +kernel
theorem ze_A_isLedBackTo_37 : decode zb_A_isLedBackTo 37 = .ok (.ireturn, 1) := by decide +kernel
theorem ze_A_addAttractor_0 : decode zb_A_addAttractor 0 = .ok (.iconst 0, 1) := by decide +kernel
theorem ze_A_addAttractor_1 : decode zb_A_addAttractor 1 = .ok (.istore_n 2, 1) := by decide +kernel
theorem ze_A_addAttractor_2 : decode zb_A_addAttractor 2 = .ok (.iload_n 2, 1) := by decide +kernel
theorem ze_A_addAttractor_3 : decode zb_A_addAttractor 3 = .ok (.aload_n 0, 1) := by decide +kernel
theorem ze_A_addAttractor_4 : decode zb_A_addAttractor 4 = .ok (.getfield 25, 3) := by decide +kernel
theorem ze_A_addAttractor_7 : decode zb_A_addAttractor 7 = .ok (.if_icmp .ge 28, 3) := by decide +kernel
theorem ze_A_addAttractor_10 : decode zb_A_addAttractor 10 = .ok (.aload_n 0, 1) := by decide +kernel
theorem ze_A_addAttractor_11 : decode zb_A_addAttractor 11 = .ok (.iload_n 1, 1) := by decide +kernel
theorem ze_A_addAttractor_12 : decode zb_A_addAttractor 12 = .ok (.iload_n 2, 1) := by decide +kernel
theorem ze_A_addAttractor_13 : decode zb_A_addAttractor 13 = .ok (.invokevirtual 56, 3) := by decide +kernel
theorem ze_A_addAttractor_16 : decode zb_A_addAttractor 16 = .ok (.ifCond .eq 13, 3) := by decide +kernel
theorem ze_A_addAttractor_19 : decode zb_A_addAttractor 19 = .ok (.aload_n 0, 1) := by decide +kernel
theorem ze_A_addAttractor_20 : decode zb_A_addAttractor 20 = .ok (.getfield 18, 3) := by decide +kernel
theorem ze_A_addAttractor_23 : decode zb_A_addAttractor 23 = .ok (.iload_n 2, 1) := by decide +kernel
theorem ze_A_addAttractor_24 : decode zb_A_addAttractor 24 = .ok (.aload_n 0, 1) := by decide +kernel
theorem ze_A_addAttractor_25 : decode zb_A_addAttractor 25 = .ok (.getfield 29, 3) := by decide +kernel
theorem ze_A_addAttractor_28 : decode zb_A_addAttractor 28 = .ok (.iastore, 1) := by decide +kernel
theorem ze_A_addAttractor_29 : decode zb_A_addAttractor 29 = .ok (.iinc 2 1, 3) := by decide +kernel
theorem ze_A_addAttractor_32 : decode zb_A_addAttractor 32 = .ok (.goto (-30), 3) := by decide +kernel
theorem ze_A_addAttractor_35 : decode zb_A_addAttractor 35 = .ok (.aload_n 0, 1) := by decide +kernel
theorem ze_A_addAttractor_36 : decode zb_A_addAttractor 36 = .ok (.getfield 22, 3) := by decide +kernel
theorem ze_A_addAttractor_39 : decode zb_A_addAttractor 39 = .ok (.aload_n 0, 1) := by decide +kernel
theorem ze_A_addAttractor_40 : decode zb_A_addAttractor 40 = .ok (.getfield 29, 3) := by decide +kernel
theorem ze_A_addAttractor_43 : decode zb_A_addAttractor 43 = .ok (.iload_n 1, 1) := by decide +kernel
theorem ze_A_addAttractor_44 : decode zb_A_addAttractor 44 = .ok (.iastore, 1) := by decide +kernel
theorem ze_A_addAttractor_45 : decode zb_A_addAttractor 45 = .ok (.aload_n 0, 1) := by decide +kernel
theorem ze_A_addAttractor_46 : decode zb_A_addAttractor 46 = .ok (.dup, 1) := by decide +kernel
theorem ze_A_addAttractor_47 : decode zb_A_addAttractor 47 = .ok (.getfield 29, 3) := by decide +kernel
theorem ze_A_addAttractor_50 : decode zb_A_addAttractor 50 = .ok (.iconst 1, 1) := by decide +kernel
theorem ze_A_addAttractor_51 : decode zb_A_addAttractor 51 = .ok (.iadd, 1) := by decide +kernel
theorem ze_A_addAttractor_52 : decode zb_A_addAttractor 52 = .ok (.putfield 29, 3) := by decide +kernel
theorem ze_A_addAttractor_55 : decode zb_A_addAttractor 55 = .ok (.iload_n 1, 1) := by decide +kernel
theorem ze_A_addAttractor_56 : decode zb_A_addAttractor 56 = .ok (.bipush 64, 2) := by decide +kernel
theorem ze_A_addAttractor_58 : decode zb_A_addAttractor 58 = .ok (.if_icmp .ge 18, 3) := by decide +kernel
theorem ze_A_addAttractor_61 : decode zb_A_addAttractor 61 = .ok (.aload_n 0, 1) := by decide +kernel
theorem ze_A_addAttractor_62 : decode zb_A_addAttractor 62 = .ok (.dup, 1) := by decide +kernel
theorem ze_A_addAttractor_63 : decode zb_A_addAttractor 63 = .ok (.getfield 60, 3) := by decide +kernel
theorem ze_A_addAttractor_66 : decode zb_A_addAttractor 66 = .ok (.lconst 1, 1) := by decide +kernel
theorem ze_A_addAttractor_67 : decode zb_A_addAttractor 67 = .ok (.iload_n 1, 1) := by decide +kernel
theorem ze_A_addAttractor_68 : decode zb_A_addAttractor 68 = .ok (.lshl, 1) := by decide +kernel
theorem ze_A_addAttractor_69 : decode zb_A_addAttractor 69 = .ok (.lor, 1) := by decide +kernel
theorem ze_A_addAttractor_70 : decode zb_A_addAttractor 70 = .ok (.putfield 60, 3) := by decide +kernel
theorem ze_A_addAttractor_73 : decode zb_A_addAttractor 73 = .ok (.goto 18, 3) := by decide +kernel
theorem ze_A_addAttractor_76 : decode zb_A_addAttractor 76 = .ok (.aload_n 0, 1) := by decide +kernel
theorem ze_A_addAttractor_77 : decode zb_A_addAttractor 77 = .ok (.dup, 1) := by decide +kernel
theorem ze_A_addAttractor_78 : decode zb_A_addAttractor 78 = .ok (.getfield 64, 3) := by decide +kernel
theorem ze_A_addAttractor_81 : decode zb_A_addAttractor 81 = .ok (.lconst 1, 1) := by decide +kernel
theorem ze_A_addAttractor_82 : decode zb_A_addAttractor 82 = .ok (.iload_n 1, 1) := by decide +kernel
theorem ze_A_addAttractor_83 : decode zb_A_addAttractor 83 = .ok (.bipush 63, 2) := by decide +kernel
theorem ze_A_addAttractor_85 : decode zb_A_addAttractor 85 = .ok (.iand, 1) := by decide +kernel
theorem ze_A_addAttractor_86 : decode zb_A_addAttractor 86 = .ok (.lshl, 1) := by decide +kernel
theorem ze_A_addAttractor_87 : decode zb_A_addAttractor 87 = .ok (.lor, 1) := by decide +kernel
theorem ze_A_addAttractor_88 : decode zb_A_addAttractor 88 = .ok (.putfield 64, 3) := by decide +kernel
theorem ze_A_addAttractor_91 : decode zb_A_addAttractor 91 = .ok (.return_, 1) := by decide +kernel
theorem ze_A_leads_0 : decode zb_A_leads 0 = .ok (.aload_n 0, 1) := by decide +kernel
theorem ze_A_leads_1 : decode zb_A_leads 1 = .ok (.getfield 9, 3) := by decide +kernel
theorem ze_A_leads_4 : decode zb_A_leads 4 = .ok (.iload_n 1, 1) := by decide +kernel
theorem ze_A_leads_5 : decode zb_A_leads 5 = .ok (.laload, 1) := by decide +kernel
theorem ze_A_leads_6 : decode zb_A_leads 6 = .ok (.aload_n 0, 1) := by decide +kernel
theorem ze_A_leads_7 : decode zb_A_leads 7 = .ok (.getfield 15, 3) := by decide +kernel
theorem ze_A_leads_10 : decode zb_A_leads 10 = .ok (.iload_n 1, 1) := by decide +kernel
theorem ze_A_leads_11 : decode zb_A_leads 11 = .ok (.laload, 1) := by decide +kernel
theorem ze_A_leads_12 : decode zb_A_leads 12 = .ok (.iload_n 2, 1) := by decide +kernel
theorem ze_A_leads_13 : decode zb_A_leads 13 = .ok (.invokestatic 81, 3) := by decide +kernel
theorem ze_A_leads_16 : decode zb_A_leads 16 = .ok (.iconst 1, 1) := by decide +kernel
theorem ze_A_leads_17 : decode zb_A_leads 17 = .ok (.if_icmp .ne 7, 3) := by decide +kernel
theorem ze_A_leads_20 : decode zb_A_leads 20 = .ok (.iconst 1, 1) := by decide +kernel
theorem ze_A_leads_21 : decode zb_A_leads 21 = .ok (.goto 4, 3) := by decide +kernel
theorem ze_A_leads_24 : decode zb_A_leads 24 = .ok (.iconst 0, 1) := by decide +kernel
theorem ze_A_leads_25 : decode zb_A_leads 25 = .ok (.ireturn, 1) := by decide +kernel
theorem ze_A_hasAttractor_0 : decode zb_A_hasAttractor 0 = .ok (.iload_n 1, 1) := by decide +kernel
theorem ze_A_hasAttractor_1 : decode zb_A_hasAttractor 1 = .ok (.ifCond .lt 15, 3) := by decide +kernel
theorem ze_A_hasAttractor_4 : decode zb_A_hasAttractor 4 = .ok (.iload_n 1, 1) := by decide +kernel
theorem ze_A_hasAttractor_5 : decode zb_A_hasAttractor 5 = .ok (.aload_n 0, 1) := by decide +kernel
theorem ze_A_hasAttractor_6 : decode zb_A_hasAttractor 6 = .ok (.getfield 29, 3) := by decide +kernel
theorem ze_A_hasAttractor_9 : decode zb_A_hasAttractor 9 = .ok (.if_icmp .ge 7, 3) := by decide +kernel
theorem ze_A_hasAttractor_12 : decode zb_A_hasAttractor 12 = .ok (.iconst 1, 1) := by decide +kernel
theorem ze_A_hasAttractor_13 : decode zb_A_hasAttractor 13 = .ok (.goto 4, 3) := by decide +kernel
theorem ze_A_hasAttractor_16 : decode zb_A_hasAttractor 16 = .ok (.iconst 0, 1) := by decide +kernel
theorem ze_A_hasAttractor_17 : decode zb_A_hasAttractor 17 = .ok (.ireturn, 1) := by decide +kernel
theorem ze_A_hasState_0 : decode zb_A_hasState 0 = .ok (.iload_n 1, 1) := by decide +kernel
theorem ze_A_hasState_1 : decode zb_A_hasState 1 = .ok (.ifCond .lt 15, 3) := by decide +kernel
theorem ze_A_hasState_4 : decode zb_A_hasState 4 = .ok (.iload_n 1, 1) := by decide +kernel
theorem ze_A_hasState_5 : decode zb_A_hasState 5 = .ok (.aload_n 0, 1) := by decide +kernel
theorem ze_A_hasState_6 : decode zb_A_hasState 6 = .ok (.getfield 25, 3) := by decide +kernel
theorem ze_A_hasState_9 : decode zb_A_hasState 9 = .ok (.if_icmp .ge 7, 3) := by decide +kernel
theorem ze_A_hasState_12 : decode zb_A_hasState 12 = .ok (.iconst 1, 1) := by decide +kernel
theorem ze_A_hasState_13 : decode zb_A_hasState 13 = .ok (.goto 4, 3) := by decide +kernel
theorem ze_A_hasState_16 : decode zb_A_hasState 16 = .ok (.iconst 0, 1) := by decide +kernel
theorem ze_A_hasState_17 : decode zb_A_hasState 17 = .ok (.ireturn, 1) := by decide +kernel
theorem ze_A_countStates_0 : decode zb_A_countStates 0 = .ok (.aload_n 0, 1) := by decide +kernel
theorem ze_A_countStates_1 : decode zb_A_countStates 1 = .ok (.getfield 22, 3) := by decide +kernel
theorem ze_A_countStates_4 : decode zb_A_countStates 4 = .ok (.iload_n 1, 1) := by decide +kernel
theorem ze_A_countStates_5 : decode zb_A_countStates 5 = .ok (.iaload, 1) := by decide +kernel
theorem ze_A_countStates_6 : decode zb_A_countStates 6 = .ok (.istore_n 2, 1) := by decide +kernel
theorem ze_A_countStates_7 : decode zb_A_countStates 7 = .ok (.aload_n 0, 1) := by decide +kernel
theorem ze_A_countStates_8 : decode zb_A_countStates 8 = .ok (.getfield 9, 3) := by decide +kernel
theorem ze_A_countStates_11 : decode zb_A_countStates 11 = .ok (.iload_n 2, 1) := by decide +kernel
theorem ze_A_countStates_12 : decode zb_A_countStates 12 = .ok (.laload, 1) := by decide +kernel
theorem ze_A_countStates_13 : decode zb_A_countStates 13 = .ok (.invokestatic 85, 3) := by decide +kernel
theorem ze_A_countStates_16 : decode zb_A_countStates 16 = .ok (.aload_n 0, 1) := by decide +kernel
theorem ze_A_countStates_17 : decode zb_A_countStates 17 = .ok (.getfield 15, 3) := by decide +kernel
theorem ze_A_countStates_20 : decode zb_A_countStates 20 = .ok (.iload_n 2, 1) := by decide +kernel
theorem ze_A_countStates_21 : decode zb_A_countStates 21 = .ok (.laload, 1) := by decide +kernel
theorem ze_A_countStates_22 : decode zb_A_countStates 22 = .ok (.invokestatic 85, 3) := by decide +kernel
theorem ze_A_countStates_25 : decode zb_A_countStates 25 = .ok (.iadd, 1) := by decide +kernel
theorem ze_A_countStates_26 : decode zb_A_countStates 26 = .ok (.ireturn, 1) := by decide +kernel
theorem ze_A_countLeading_0 : decode zb_A_countLeading 0 = .ok (.iconst 0, 1) := by decide +kernel
theorem ze_A_countLeading_1 : decode zb_A_countLeading 1 = .ok (.istore_n 2, 1) := by decide +kernel
theorem ze_A_countLeading_2 : decode zb_A_countLeading 2 = .ok (.iconst 0, 1) := by decide +kernel
theorem ze_A_countLeading_3 : decode zb_A_countLeading 3 = .ok (.istore_n 3, 1) := by decide +kernel
theorem ze_A_countLeading_4 : decode zb_A_countLeading 4 = .ok (.iload_n 3, 1) := by decide +kernel
theorem ze_A_countLeading_5 : decode zb_A_countLeading 5 = .ok (.aload_n 0, 1) := by decide +kernel
theorem ze_A_countLeading_6 : decode zb_A_countLeading 6 = .ok (.getfield 25, 3) := by decide +kernel
theorem ze_A_countLeading_9 : decode zb_A_countLeading 9 = .ok (.if_icmp .ge 26, 3) := by decide +kernel
theorem ze_A_countLeading_12 : decode zb_A_countLeading 12 = .ok (.aload_n 0, 1) := by decide +kernel
theorem ze_A_countLeading_13 : decode zb_A_countLeading 13 = .ok (.iload_n 3, 1) := by decide +kernel
theorem ze_A_countLeading_14 : decode zb_A_countLeading 14 = .ok (.aload_n 0, 1) := by decide +kernel
theorem ze_A_countLeading_15 : decode zb_A_countLeading 15 = .ok (.getfield 22, 3) := by decide +kernel
theorem ze_A_countLeading_18 : decode zb_A_countLeading 18 = .ok (.iload_n 1, 1) := by decide +kernel
theorem ze_A_countLeading_19 : decode zb_A_countLeading 19 = .ok (.iaload, 1) := by decide +kernel
theorem ze_A_countLeading_20 : decode zb_A_countLeading 20 = .ok (.invokevirtual 56, 3) := by decide +kernel
theorem ze_A_countLeading_23 : decode zb_A_countLeading 23 = .ok (.ifCond .eq 6, 3) := by decide +kernel
theorem ze_A_countLeading_26 : decode zb_A_countLeading 26 = .ok (.iinc 2 1, 3) := by decide +kernel
theorem ze_A_countLeading_29 : decode zb_A_countLeading 29 = .ok (.iinc 3 1, 3) := by decide +kernel
theorem ze_A_countLeading_32 : decode zb_A_countLeading 32 = .ok (.goto (-28), 3) := by decide +kernel
theorem ze_A_countLeading_35 : decode zb_A_countLeading 35 = .ok (.iload_n 2, 1) := by decide +kernel
