theorem ze_Q_leads_15 : decode zb_Q_leads 15 = .ok (.land, 1) := by decide +kernel
theorem ze_Q_leads_16 : decode zb_Q_leads 16 = .ok (.lconst 1, 1) := by decide +kernel
theorem ze_Q_leads_17 : decode zb_Q_leads 17 = .ok (.lcmp, 1) := by decide +kernel
theorem ze_Q_leads_18 : decode zb_Q_leads 18 = .ok (.ifCond .ne 7, 3) := by decide +kernel
theorem ze_Q_leads_21 : decode zb_Q_leads 21 = .ok (.iconst 1, 1) := by decide +kernel
theorem ze_Q_leads_22 : decode zb_Q_leads 22 = .ok (.goto 30, 3) := by decide +kernel
theorem ze_Q_leads_25 : decode zb_Q_leads 25 = .ok (.iconst 0, 1) := by decide +kernel
theorem ze_Q_leads_26 : decode zb_Q_leads 26 = .ok (.goto 26, 3) := by decide +kernel
theorem ze_Q_leads_29 : decode zb_Q_leads 29 = .ok (.aload_n 0, 1) := by decide +kernel
theorem ze_Q_leads_30 : decode zb_Q_leads 30 = .ok (.getfield 41, 3) := by decide +kernel
theorem ze_Q_leads_33 : decode zb_Q_leads 33 = .ok (.iload_n 1, 1) := by decide +kernel
theorem ze_Q_leads_34 : decode zb_Q_leads 34 = .ok (.laload, 1) := by decide +kernel
theorem ze_Q_leads_35 : decode zb_Q_leads 35 = .ok (.iload_n 2, 1) := by decide +kernel
theorem ze_Q_leads_36 : decode zb_Q_leads 36 = .ok (.bipush 64, 2) := by decide +kernel
theorem ze_Q_leads_38 : decode zb_Q_leads 38 = .ok (.isub, 1) := by decide +kernel
theorem ze_Q_leads_39 : decode zb_Q_leads 39 = .ok (.lshr, 1) := by decide +kernel
theorem ze_Q_leads_40 : decode zb_Q_leads 40 = .ok (.lconst 1, 1) := by decide +kernel
theorem ze_Q_leads_41 : decode zb_Q_leads 41 = .ok (.land, 1) := by decide +kernel
theorem ze_Q_leads_42 : decode zb_Q_leads 42 = .ok (.lconst 1, 1) := by decide +kernel
theorem ze_Q_leads_43 : decode zb_Q_leads 43 = .ok (.lcmp, 1) := by decide +kernel
theorem ze_Q_leads_44 : decode zb_Q_leads 44 = .ok (.ifCond .ne 7, 3) := by decide +kernel
theorem ze_Q_leads_47 : decode zb_Q_leads 47 = .ok (.iconst 1, 1) := by decide +kernel
theorem ze_Q_leads_48 : decode zb_Q_leads 48 = .ok (.goto 4, 3) := by decide +kernel
theorem ze_Q_leads_51 : decode zb_Q_leads 51 = .ok (.iconst 0, 1) := by decide +kernel
theorem ze_Q_leads_52 : decode zb_Q_leads 52 = .ok (.ireturn, 1) := by decide +kernel
theorem ze_Q_join_0 : decode zb_Q_join 0 = .ok (.aload_n 0, 1) := by decide +kernel
theorem ze_Q_join_1 : decode zb_Q_join 1 = .ok (.getfield 38, 3) := by decide +kernel
theorem ze_Q_join_4 : decode zb_Q_join 4 = .ok (.iload_n 1, 1) := by decide +kernel
theorem ze_Q_join_5 : decode zb_Q_join 5 = .ok (.laload, 1) := by decide +kernel
theorem ze_Q_join_6 : decode zb_Q_join 6 = .ok (.aload_n 0, 1) := by decide +kernel
theorem ze_Q_join_7 : decode zb_Q_join 7 = .ok (.getfield 38, 3) := by decide +kernel
theorem ze_Q_join_10 : decode zb_Q_join 10 = .ok (.iload_n 2, 1) := by decide +kernel
theorem ze_Q_join_11 : decode zb_Q_join 11 = .ok (.laload, 1) := by decide +kernel
theorem ze_Q_join_12 : decode zb_Q_join 12 = .ok (.lor, 1) := by decide +kernel
theorem ze_Q_join_13 : decode zb_Q_join 13 = .ok (.lstore_n 3, 1) := by decide +kernel
theorem ze_Q_join_14 : decode zb_Q_join 14 = .ok (.aload_n 0, 1) := by decide +kernel
theorem ze_Q_join_15 : decode zb_Q_join 15 = .ok (.getfield 41, 3) := by decide +kernel
theorem ze_Q_join_18 : decode zb_Q_join 18 = .ok (.iload_n 1, 1) := by decide +kernel
theorem ze_Q_join_19 : decode zb_Q_join 19 = .ok (.laload, 1) := by decide +kernel
theorem ze_Q_join_20 : decode zb_Q_join 20 = .ok (.aload_n 0, 1) := by decide +kernel
theorem ze_Q_join_21 : decode zb_Q_join 21 = .ok (.getfield 41, 3) := by decide +kernel
theorem ze_Q_join_24 : decode zb_Q_join 24 = .ok (.iload_n 2, 1) := by decide +kernel
theorem ze_Q_join_25 : decode zb_Q_join 25 = .ok (.laload, 1) := by decide +kernel
theorem ze_Q_join_26 : decode zb_Q_join 26 = .ok (.lor, 1) := by decide +kernel
theorem ze_Q_join_27 : decode zb_Q_join 27 = .ok (.lstore 5, 2) := by decide +kernel
theorem ze_Q_join_29 : decode zb_Q_join 29 = .ok (.lload_n 3, 1) := by decide +kernel
theorem ze_Q_join_30 : decode zb_Q_join 30 = .ok (.aload_n 0, 1) := by decide +kernel
theorem ze_Q_join_31 : decode zb_Q_join 31 = .ok (.getfield 38, 3) := by decide +kernel
theorem ze_Q_join_34 : decode zb_Q_join 34 = .ok (.iload_n 1, 1) := by decide +kernel
theorem ze_Q_join_35 : decode zb_Q_join 35 = .ok (.laload, 1) := by decide +kernel
theorem ze_Q_join_36 : decode zb_Q_join 36 = .ok (.lcmp, 1) := by decide +kernel
theorem ze_Q_join_37 : decode zb_Q_join 37 = .ok (.ifCond .ne 15, 3) := by decide +kernel
theorem ze_Q_join_40 : decode zb_Q_join 40 = .ok (.lload 5, 2) := by decide +kernel
theorem ze_Q_join_42 : decode zb_Q_join 42 = .ok (.aload_n 0, 1) := by decide +kernel
theorem ze_Q_join_43 : decode zb_Q_join 43 = .ok (.getfield 41, 3) := by decide +kernel
theorem ze_Q_join_46 : decode zb_Q_join 46 = .ok (.iload_n 1, 1) := by decide +kernel
theorem ze_Q_join_47 : decode zb_Q_join 47 = .ok (.laload, 1) := by decide +kernel
theorem ze_Q_join_48 : decode zb_Q_join 48 = .ok (.lcmp, 1) := by decide +kernel
theorem ze_Q_join_49 : decode zb_Q_join 49 = .ok (.ifCond .eq 7, 3) := by decide +kernel
theorem ze_Q_join_52 : decode zb_Q_join 52 = .ok (.iconst 1, 1) := by decide +kernel
theorem ze_Q_join_53 : decode zb_Q_join 53 = .ok (.goto 4, 3) := by decide +kernel
theorem ze_Q_join_56 : decode zb_Q_join 56 = .ok (.iconst 0, 1) := by decide +kernel
theorem ze_Q_join_57 : decode zb_Q_join 57 = .ok (.istore 7, 2) := by decide +kernel
theorem ze_Q_join_59 : decode zb_Q_join 59 = .ok (.aload_n 0, 1) := by decide +kernel
theorem ze_Q_join_60 : decode zb_Q_join 60 = .ok (.getfield 38, 3) := by decide +kernel
theorem ze_Q_join_63 : decode zb_Q_join 63 = .ok (.iload_n 1, 1) := by decide +kernel
theorem ze_Q_join_64 : decode zb_Q_join 64 = .ok (.lload_n 3, 1) := by decide +kernel
theorem ze_Q_join_65 : decode zb_Q_join 65 = .ok (.lastore, 1) := by decide +kernel
theorem ze_Q_join_66 : decode zb_Q_join 66 = .ok (.aload_n 0, 1) := by decide +kernel
theorem ze_Q_join_67 : decode zb_Q_join 67 = .ok (.getfield 41, 3) := by decide +kernel
theorem ze_Q_join_70 : decode zb_Q_join 70 = .ok (.iload_n 1, 1) := by decide +kernel
theorem ze_Q_join_71 : decode zb_Q_join 71 = .ok (.lload 5, 2) := by decide +kernel
theorem ze_Q_join_73 : decode zb_Q_join 73 = .ok (.lastore, 1) := by decide +kernel
theorem ze_Q_join_74 : decode zb_Q_join 74 = .ok (.iload 7, 2) := by decide +kernel
theorem ze_Q_join_76 : decode zb_Q_join 76 = .ok (.ireturn, 1) := by decide +kernel
theorem ze_Q_step_0 : decode zb_Q_step 0 = .ok (.iload_n 2, 1) := by decide +kernel
theorem ze_Q_step_1 : decode zb_Q_step 1 = .ok (.ifCond .ge 9, 3) := by decide +kernel
theorem ze_Q_step_4 : decode zb_Q_step 4 = .ok (.aload_n 0, 1) := by decide +kernel
theorem ze_Q_step_5 : decode zb_Q_step 5 = .ok (.iload_n 1, 1) := by decide +kernel
theorem ze_Q_step_6 : decode zb_Q_step 6 = .ok (.invokevirtual 151, 3) := by decide +kernel
theorem ze_Q_step_9 : decode zb_Q_step 9 = .ok (.ireturn, 1) := by decide +kernel
theorem ze_Q_step_10 : decode zb_Q_step 10 = .ok (.iload_n 1, 1) := by decide +kernel
theorem ze_Q_step_11 : decode zb_Q_step 11 = .ok (.iconst 1, 1) := by decide +kernel
theorem ze_Q_step_12 : decode zb_Q_step 12 = .ok (.iload_n 2, 1) := by decide +kernel
theorem ze_Q_step_13 : decode zb_Q_step 13 = .ok (.ishl, 1) := by decide +kernel
theorem ze_Q_step_14 : decode zb_Q_step 14 = .ok (.iconst (-1), 1) := by decide +kernel
theorem ze_Q_step_15 : decode zb_Q_step 15 = .ok (.ixor, 1) := by decide +kernel
theorem ze_Q_step_16 : decode zb_Q_step 16 = .ok (.iand, 1) := by decide +kernel
theorem ze_Q_step_17 : decode zb_Q_step 17 = .ok (.istore_n 3, 1) := by decide +kernel
theorem ze_Q_step_18 : decode zb_Q_step 18 = .ok (.iload_n 3, 1) := by decide +kernel
theorem ze_Q_step_19 : decode zb_Q_step 19 = .ok (.aload_n 0, 1) := by decide +kernel
theorem ze_Q_step_20 : decode zb_Q_step 20 = .ok (.iload_n 2, 1) := by decide +kernel
theorem ze_Q_step_21 : decode zb_Q_step 21 = .ok (.iload_n 1, 1) := by decide +kernel
theorem ze_Q_step_22 : decode zb_Q_step 22 = .ok (.invokevirtual 139, 3) := by decide +kernel
theorem ze_Q_step_25 : decode zb_Q_step 25 = .ok (.iload_n 2, 1) := by decide +kernel
theorem ze_Q_step_26 : decode zb_Q_step 26 = .ok (.ishl, 1) := by decide +kernel
theorem ze_Q_step_27 : decode zb_Q_step 27 = .ok (.iadd, 1) := by decide +kernel
theorem ze_Q_step_28 : decode zb_Q_step 28 = .ok (.ireturn, 1) := by decide +kernel
theorem ze_Q_spreadOut_0 : decode zb_Q_spreadOut 0 = .ok (.iconst 1, 1) := by decide +kernel
theorem ze_Q_spreadOut_1 : decode zb_Q_spreadOut 1 = .ok (.aload_n 0, 1) := by decide +kernel
theorem ze_Q_spreadOut_2 : decode zb_Q_spreadOut 2 = .ok (.getfield 126, 3) := by decide +kernel
theorem ze_Q_spreadOut_5 : decode zb_Q_spreadOut 5 = .ok (.ishl, 1) := by decide +kernel
theorem ze_Q_spreadOut_6 : decode zb_Q_spreadOut 6 = .ok (.istore_n 1, 1) := by decide +kernel
theorem ze_Q_spreadOut_7 : decode zb_Q_spreadOut 7 = .ok (.iconst 0, 1) := by decide +kernel
theorem ze_Q_spreadOut_8 : decode zb_Q_spreadOut 8 = .ok (.istore_n 2, 1) := by decide +kernel
theorem ze_Q_spreadOut_9 : decode zb_Q_spreadOut 9 = .ok (.iload_n 2, 1) := by decide +kernel
theorem ze_Q_spreadOut_10 : decode zb_Q_spreadOut 10 = .ok (.iload_n 1, 1) := by decide +kernel
theorem ze_Q_spreadOut_11 : decode zb_Q_spreadOut 11 = .ok (.if_icmp .ge 50, 3) := by decide +kernel
theorem ze_Q_spreadOut_14 : decode zb_Q_spreadOut 14 = .ok (.aload_n 0, 1) := by decide +kernel
theorem ze_Q_spreadOut_15 : decode zb_Q_spreadOut 15 = .ok (.getfield 38, 3) := by decide +kernel
theorem ze_Q_spreadOut_18 : decode zb_Q_spreadOut 18 = .ok (.iload_n 2, 1) := by decide +kernel
theorem ze_Q_spreadOut_19 : decode zb_Q_spreadOut 19 = .ok (.iload_n 2, 1) := by decide +kernel
theorem ze_Q_spreadOut_20 : decode zb_Q_spreadOut 20 = .ok (.bipush 64, 2) := by decide +kernel
theorem ze_Q_spreadOut_22 : decode zb_Q_spreadOut 22 = .ok (.if_icmp .ge 9, 3) := by decide +kernel
theorem ze_Q_spreadOut_25 : decode zb_Q_spreadOut 25 = .ok (.lconst 1, 1) := by decide +kernel
theorem ze_Q_spreadOut_26 : decode zb_Q_spreadOut 26 = .ok (.iload_n 2, 1) := by decide +kernel
theorem ze_Q_spreadOut_27 : decode zb_Q_spreadOut 27 = .ok (.lshl, 1) := by decide +kernel
theorem ze_Q_spreadOut_28 : decode zb_Q_spreadOut 28 = .ok (.goto 4, 3) := by decide +kernel
theorem ze_Q_spreadOut_31 : decode zb_Q_spreadOut 31 = .ok (.lconst 0, 1) := by decide +kernel
theorem ze_Q_spreadOut_32 : decode zb_Q_spreadOut 32 = .ok (.lastore, 1) := by decide +kernel
theorem ze_Q_spreadOut_33 : decode zb_Q_spreadOut 33 = .ok (.aload_n 0, 1) := by decide +kernel
theorem ze_Q_spreadOut_34 : decode zb_Q_spreadOut 34 = .ok (.getfield 41, 3) := by decide +kernel
theorem ze_Q_spreadOut_37 : decode zb_Q_spreadOut 37 = .ok (.iload_n 2, 1) := by decide +kernel
theorem ze_Q_spreadOut_38 : decode zb_Q_spreadOut 38 = .ok (.iload_n 2, 1) := by decide +kernel
theorem ze_Q_spreadOut_39 : decode zb_Q_spreadOut 39 = .ok (.bipush 64, 2) := by decide +kernel
theorem ze_Q_spreadOut_41 : decode zb_Q_spreadOut 41 = .ok (.if_icmp .ge 7, 3) := by decide +kernel
theorem ze_Q_spreadOut_44 : decode zb_Q_spreadOut 44 = .ok (.lconst 0, 1) := by decide +kernel
theorem ze_Q_spreadOut_45 : decode zb_Q_spreadOut 45 = .ok (.goto 9, 3) := by decide +kernel
theorem ze_Q_spreadOut_48 : decode zb_Q_spreadOut 48 = .ok (.lconst 1, 1) := by decide +kernel
theorem ze_Q_spreadOut_49 : decode zb_Q_spreadOut 49 = .ok (.iload_n 2, 1) := by decide +kernel
theorem ze_Q_spreadOut_50 : decode zb_Q_spreadOut 50 = .ok (.bipush 64, 2) := by decide +kernel
theorem ze_Q_spreadOut_52 : decode zb_Q_spreadOut 52 = .ok (.isub, 1) := by decide +kernel
theorem ze_Q_spreadOut_53 : decode zb_Q_spreadOut 53 = .ok (.lshl, 1) := by decide +kernel
theorem ze_Q_spreadOut_54 : decode zb_Q_spreadOut 54 = .ok (.lastore, 1) := by decide +kernel
theorem ze_Q_spreadOut_55 : decode zb_Q_spreadOut 55 = .ok (.iinc 2 1, 3) := by decide +kernel
theorem ze_Q_spreadOut_58 : decode zb_Q_spreadOut 58 = .ok (.goto (-49), 3) := by decide +kernel
theorem ze_Q_spreadOut_61 : decode zb_Q_spreadOut 61 = .ok (.iconst 1, 1) := by decide +kernel
theorem ze_Q_spreadOut_62 : decode zb_Q_spreadOut 62 = .ok (.istore_n 2, 1) := by decide +kernel
theorem ze_Q_spreadOut_63 : decode zb_Q_spreadOut 63 = .ok (.iload_n 2, 1) := by decide +kernel
theorem ze_Q_spreadOut_64 : decode zb_Q_spreadOut 64 = .ok (.ifCond .eq 94, 3) := by decide +kernel
theorem ze_Q_spreadOut_67 : decode zb_Q_spreadOut 67 = .ok (.iconst 0, 1) := by decide +kernel
theorem ze_Q_spreadOut_68 : decode zb_Q_spreadOut 68 = .ok (.istore_n 2, 1) := by decide +kernel
theorem ze_Q_spreadOut_69 : decode zb_Q_spreadOut 69 = .ok (.iconst 0, 1) := by decide +kernel
theorem ze_Q_spreadOut_70 : decode zb_Q_spreadOut 70 = .ok (.istore_n 3, 1) := by decide +kernel
theorem ze_Q_spreadOut_71 : decode zb_Q_spreadOut 71 = .ok (.iload_n 3, 1) := by decide +kernel
theorem ze_Q_spreadOut_72 : decode zb_Q_spreadOut 72 = .ok (.iload_n 1, 1) := by decide +kernel
theorem ze_Q_spreadOut_73 : decode zb_Q_spreadOut 73 = .ok (.if_icmp .ge 82, 3) := by decide +kernel
theorem ze_Q_spreadOut_76 : decode zb_Q_spreadOut 76 = .ok (.aload_n 0, 1) := by decide +kernel
theorem ze_Q_spreadOut_77 : decode zb_Q_spreadOut 77 = .ok (.getfield 154, 3) := by decide +kernel
theorem ze_Q_spreadOut_80 : decode zb_Q_spreadOut 80 = .ok (.ifCond .eq 7, 3) := by decide +kernel
theorem ze_Q_spreadOut_83 : decode zb_Q_spreadOut 83 = .ok (.iconst 0, 1) := by decide +kernel
theorem ze_Q_spreadOut_84 : decode zb_Q_spreadOut 84 = .ok (.goto 4, 3) := by decide +kernel
theorem ze_Q_spreadOut_87 : decode zb_Q_spreadOut 87 = .ok (.iconst (-1), 1) := by decide +kernel
theorem ze_Q_spreadOut_88 : decode zb_Q_spreadOut 88 = .ok (.istore 4, 2) := by decide +kernel
theorem ze_Q_spreadOut_90 : decode zb_Q_spreadOut 90 = .ok (.iload 4, 2) := by decide +kernel
theorem ze_Q_spreadOut_92 : decode zb_Q_spreadOut 92 = .ok (.aload_n 0, 1) := by decide +kernel
theorem ze_Q_spreadOut_93 : decode zb_Q_spreadOut 93 = .ok (.getfield 154, 3) := by decide +kernel
theorem ze_Q_spreadOut_96 : decode zb_Q_spreadOut 96 = .ok (.ifCond .eq 10, 3) := by decide +kernel
theorem ze_Q_spreadOut_99 : decode zb_Q_spreadOut 99 = .ok (.aload_n 0, 1) := by decide +kernel
theorem ze_Q_spreadOut_100 : decode zb_Q_spreadOut 100 = .ok (.getfield 126, 3) := by decide +kernel
theorem ze_Q_spreadOut_103 : decode zb_Q_spreadOut 103 = .ok (.goto 4, 3) := by decide +kernel
theorem ze_Q_spreadOut_106 : decode zb_Q_spreadOut 106 = .ok (.iconst 0, 1) := by decide +kernel
theorem ze_Q_spreadOut_107 : decode zb_Q_spreadOut 107 = .ok (.if_icmp .ge 42, 3) := by decide +kernel
theorem ze_Q_spreadOut_110 : decode zb_Q_spreadOut 110 = .ok (.aload_n 0, 1) := by decide +kernel
theorem ze_Q_spreadOut_111 : decode zb_Q_spreadOut 111 = .ok (.iload_n 3, 1) := by decide +kernel
theorem ze_Q_spreadOut_112 : decode zb_Q_spreadOut 112 = .ok (.iload 4, 2) := by decide +kernel
theorem ze_Q_spreadOut_114 : decode zb_Q_spreadOut 114 = .ok (.invokevirtual 157, 3) := by decide +kernel
theorem ze_Q_spreadOut_117 : decode zb_Q_spreadOut 117 = .ok (.istore 5, 2) := by decide +kernel
theorem ze_Q_spreadOut_119 : decode zb_Q_spreadOut 119 = .ok (.aload_n 0, 1) := by decide +kernel
theorem ze_Q_spreadOut_120 : decode zb_Q_spreadOut 120 = .ok (.iload_n 3, 1) := by decide +kernel
theorem ze_Q_spreadOut_121 : decode zb_Q_spreadOut 121 = .ok (.iload 5, 2) := by decide +kernel
theorem ze_Q_spreadOut_123 : decode zb_Q_spreadOut 123 = .ok (.invokevirtual 160, 3) := by decide +kernel
theorem ze_Q_spreadOut_126 : decode zb_Q_spreadOut 126 = .ok (.istore 6, 2) := by decide +kernel
theorem ze_Q_spreadOut_128 : decode zb_Q_spreadOut 128 = .ok (.iload_n 2, 1) := by decide +kernel
theorem ze_Q_spreadOut_129 : decode zb_Q_spreadOut 129 = .ok (.ifCond .ne 8, 3) := by decide +kernel
theorem ze_Q_spreadOut_132 : decode zb_Q_spreadOut 132 = .ok (.iload 6, 2) := by decide +kernel
theorem ze_Q_spreadOut_134 : decode zb_Q_spreadOut 134 = .ok (.ifCond .eq 7, 3) := by decide +kernel
theorem ze_Q_spreadOut_137 : decode zb_Q_spreadOut 137 = .ok (.iconst 1, 1) := by decide +kernel
theorem ze_Q_spreadOut_138 : decode zb_Q_spreadOut 138 = .ok (.goto 4, 3) := by decide +kernel
theorem ze_Q_spreadOut_141 : decode zb_Q_spreadOut 141 = .ok (.iconst 0, 1) := by decide +kernel
theorem ze_Q_spreadOut_142 : decode zb_Q_spreadOut 142 = .ok (.istore_n 2, 1) := by decide +kernel
theorem ze_Q_spreadOut_143 : decode zb_Q_spreadOut 143 = .ok (.iinc 4 1, 3) := by decide +kernel
theorem ze_Q_spreadOut_146 : decode zb_Q_spreadOut 146 = .ok (.goto (-56), 3) := by decide +kernel
theorem ze_Q_spreadOut_149 : decode zb_Q_spreadOut 149 = .ok (.iinc 3 1, 3) := by decide +kernel
theorem ze_Q_spreadOut_152 : decode zb_Q_spreadOut 152 = .ok (.goto (-81), 3) := by decide +kernel
theorem ze_Q_spreadOut_155 : decode zb_Q_spreadOut 155 = .ok (.goto (-92), 3) := by decide +kernel
theorem ze_Q_spreadOut_158 : decode zb_Q_spreadOut 158 = .ok (.return_, 1) := by decide +kernel
theorem ze_Q_settled_0 : decode zb_Q_settled 0 = .ok (.iconst 1, 1) := by decide +kernel
theorem ze_Q_settled_1 : decode zb_Q_settled 1 = .ok (.istore_n 2, 1) := by decide +kernel
theorem ze_Q_settled_2 : decode zb_Q_settled 2 = .ok (.iconst 0, 1) := by decide +kernel
theorem ze_Q_settled_3 : decode zb_Q_settled 3 = .ok (.istore_n 3, 1) := by decide +kernel
theorem ze_Q_settled_4 : decode zb_Q_settled 4 = .ok (.iload_n 3, 1) := by decide +kernel
theorem ze_Q_settled_5 : decode zb_Q_settled 5 = .ok (.iconst 1, 1) := by decide +kernel
theorem ze_Q_settled_6 : decode zb_Q_settled 6 = .ok (.aload_n 0, 1) := by decide +kernel
theorem ze_Q_settled_7 : decode zb_Q_settled 7 = .ok (.getfield 126, 3) := by decide +kernel
theorem ze_Q_settled_10 : decode zb_Q_settled 10 = .ok (.ishl, 1) := by decide +kernel
theorem ze_Q_settled_11 : decode zb_Q_settled 11 = .ok (.if_icmp .ge 37, 3) := by decide +kernel
theorem ze_Q_settled_14 : decode zb_Q_settled 14 = .ok (.iload_n 2, 1) := by decide +kernel
theorem ze_Q_settled_15 : decode zb_Q_settled 15 = .ok (.ifCond .eq 25, 3) := by decide +kernel
theorem ze_Q_settled_18 : decode zb_Q_settled 18 = .ok (.aload_n 0, 1) := by decide +kernel
theorem ze_Q_settled_19 : decode zb_Q_settled 19 = .ok (.iload_n 1, 1) := by decide +kernel
theorem ze_Q_settled_20 : decode zb_Q_settled 20 = .ok (.iload_n 3, 1) := by decide +kernel
theorem ze_Q_settled_21 : decode zb_Q_settled 21 = .ok (.invokevirtual 164, 3) := by decide +kernel
theorem ze_Q_settled_24 : decode zb_Q_settled 24 = .ok (.ifCond .eq 12, 3) := by decide +kernel
theorem ze_Q_settled_27 : decode zb_Q_settled 27 = .ok (.aload_n 0, 1) := by decide +kernel
theorem ze_Q_settled_28 : decode zb_Q_settled 28 = .ok (.iload_n 3, 1) := by decide +kernel
theorem ze_Q_settled_29 : decode zb_Q_settled 29 = .ok (.iload_n 1, 1) := by decide +kernel
theorem ze_Q_settled_30 : decode zb_Q_settled 30 = .ok (.invokevirtual 164, 3) := by decide +kernel
theorem ze_Q_settled_33 : decode zb_Q_settled 33 = .ok (.ifCond .eq 7, 3) := by decide +kernel
theorem ze_Q_settled_36 : decode zb_Q_settled 36 = .ok (.iconst 1, 1) := by decide +kernel
theorem ze_Q_settled_37 : decode zb_Q_settled 37 = .ok (.goto 4, 3) := by decide +kernel
theorem ze_Q_settled_40 : decode zb_Q_settled 40 = .ok (.iconst 0, 1) := by decide +kernel
theorem ze_Q_settled_41 : decode zb_Q_settled 41 = .ok (.istore_n 2, 1) := by decide +kernel
theorem ze_Q_settled_42 : decode zb_Q_settled 42 = .ok (.iinc 3 1, 3) := by decide +kernel
theorem ze_Q_settled_45 : decode zb_Q_settled 45 = .ok (.goto (-41), 3) := by decide +kernel
theorem ze_Q_settled_48 : decode zb_Q_settled 48 = .ok (.iload_n 2, 1) := by decide +kernel
theorem ze_Q_settled_49 : decode zb_Q_settled 49 = .ok (.ireturn, 1) := by decide +kernel
theorem ze_Q_isLeast_0 : decode zb_Q_isLeast 0 = .ok (.iconst 1, 1) := by decide +kernel
theorem ze_Q_isLeast_1 : decode zb_Q_isLeast 1 = .ok (.istore_n 2, 1) := by decide +kernel
theorem ze_Q_isLeast_2 : decode zb_Q_isLeast 2 = .ok (.iconst 0, 1) := by decide +kernel
theorem ze_Q_isLeast_3 : decode zb_Q_isLeast 3 = .ok (.istore_n 3, 1) := by decide +kernel
theorem ze_Q_isLeast_4 : decode zb_Q_isLeast 4 = .ok (.iload_n 3, 1) := by decide +kernel
theorem ze_Q_isLeast_5 : decode zb_Q_isLeast 5 = .ok (.iload_n 1, 1) := by decide +kernel
theorem ze_Q_isLeast_6 : decode zb_Q_isLeast 6 = .ok (.if_icmp .ge 28, 3) := by decide +kernel
theorem ze_Q_isLeast_9 : decode zb_Q_isLeast 9 = .ok (.iload_n 2, 1) := by decide +kernel
theorem ze_Q_isLeast_10 : decode zb_Q_isLeast 10 = .ok (.ifCond .eq 16, 3) := by decide +kernel
theorem ze_Q_isLeast_13 : decode zb_Q_isLeast 13 = .ok (.aload_n 0, 1) := by decide +kernel
theorem ze_Q_isLeast_14 : decode zb_Q_isLeast 14 = .ok (.iload_n 1, 1) := by decide +kernel
theorem ze_Q_isLeast_15 : decode zb_Q_isLeast 15 = .ok (.iload_n 3, 1) := by decide +kernel
theorem ze_Q_isLeast_16 : decode zb_Q_isLeast 16 = .ok (.invokevirtual 164, 3) := by decide +kernel
theorem ze_Q_isLeast_19 : decode zb_Q_isLeast 19 = .ok (.ifCond .ne 7, 3) := by decide +kernel
theorem ze_Q_isLeast_22 : decode zb_Q_isLeast 22 = .ok (.iconst 1, 1) := by decide +kernel
theorem ze_Q_isLeast_23 : decode zb_Q_isLeast 23 = .ok (.goto 4, 3) := by decide +kernel
theorem ze_Q_isLeast_26 : decode zb_Q_isLeast 26 = .ok (.iconst 0, 1) := by decide +kernel
theorem ze_Q_isLeast_27 : decode zb_Q_isLeast 27 = .ok (.istore_n 2, 1) := by decide +kernel
theorem ze_Q_isLeast_28 : decode zb_Q_isLeast 28 = .ok (.iinc 3 1, 3) := by decide +kernel
theorem ze_Q_isLeast_31 : decode zb_Q_isLeast 31 = .ok (.goto (-27), 3) := by decide +kernel
theorem ze_Q_isLeast_34 : decode zb_Q_isLeast 34 = .ok (.iload_n 2, 1) := by decide +kernel
theorem ze_Q_isLeast_35 : decode zb_Q_isLeast 35 = .ok (.ireturn, 1) := by decide +kernel
theorem ze_Q_analyse_0 : decode zb_Q_analyse 0 = .ok (.aload_n 0, 1) := by decide +kernel
theorem ze_Q_analyse_1 : decode zb_Q_analyse 1 = .ok (.getfield 126, 3) := by decide +kernel
theorem ze_Q_analyse_4 : decode zb_Q_analyse 4 = .ok (.ifCond .ne 5, 3) := by decide +kernel
theorem ze_Q_analyse_7 : decode zb_Q_analyse 7 = .ok (.iconst (-1), 1) := by decide +kernel
theorem ze_Q_analyse_8 : decode zb_Q_analyse 8 = .ok (.ireturn, 1) := by decide +kernel
theorem ze_Q_analyse_9 : decode zb_Q_analyse 9 = .ok (.aload_n 0, 1) := by decide +kernel
theorem ze_Q_analyse_10 : decode zb_Q_analyse 10 = .ok (.iload_n 1, 1) := by decide +kernel
theorem ze_Q_analyse_11 : decode zb_Q_analyse 11 = .ok (.putfield 154, 3) := by decide +kernel
theorem ze_Q_analyse_14 : decode zb_Q_analyse 14 = .ok (.aload_n 0, 1) := by decide +kernel
theorem ze_Q_analyse_15 : decode zb_Q_analyse 15 = .ok (.invokevirtual 167, 3) := by decide +kernel
theorem ze_Q_analyse_18 : decode zb_Q_analyse 18 = .ok (.aload_n 0, 1) := by decide +kernel
theorem ze_Q_analyse_19 : decode zb_Q_analyse 19 = .ok (.iconst 0, 1) := by decide +kernel
theorem ze_Q_analyse_20 : decode zb_Q_analyse 20 = .ok (.putfield 170, 3) := by decide +kernel
theorem ze_Q_analyse_23 : decode zb_Q_analyse 23 = .ok (.iconst 0, 1) := by decide +kernel
theorem ze_Q_analyse_24 : decode zb_Q_analyse 24 = .ok (.istore_n 2, 1) := by decide +kernel
theorem ze_Q_analyse_25 : decode zb_Q_analyse 25 = .ok (.iload_n 2, 1) := by decide +kernel
theorem ze_Q_analyse_26 : decode zb_Q_analyse 26 = .ok (.iconst 1, 1) := by decide +kernel
theorem ze_Q_analyse_27 : decode zb_Q_analyse 27 = .ok (.aload_n 0, 1) := by decide +kernel
theorem ze_Q_analyse_28 : decode zb_Q_analyse 28 = .ok (.getfield 126, 3) := by decide +kernel
theorem ze_Q_analyse_31 : decode zb_Q_analyse 31 = .ok (.ishl, 1) := by decide +kernel
theorem ze_Q_analyse_32 : decode zb_Q_analyse 32 = .ok (.if_icmp .ge 45, 3) := by decide +kernel
theorem ze_Q_analyse_35 : decode zb_Q_analyse 35 = .ok (.aload_n 0, 1) := by decide +kernel
theorem ze_Q_analyse_36 : decode zb_Q_analyse 36 = .ok (.iload_n 2, 1) := by decide +kernel
theorem ze_Q_analyse_37 : decode zb_Q_analyse 37 = .ok (.invokevirtual 173, 3) := by decide +kernel
theorem ze_Q_analyse_40 : decode zb_Q_analyse 40 = .ok (.ifCond .eq 31, 3) := by decide +kernel
theorem ze_Q_analyse_43 : decode zb_Q_analyse 43 = .ok (.aload_n 0, 1) := by decide +kernel
theorem ze_Q_analyse_44 : decode zb_Q_analyse 44 = .ok (.iload_n 2, 1) := by decide +kernel
theorem ze_Q_analyse_45 : decode zb_Q_analyse 45 = .ok (.invokevirtual 176, 3) := by decide +kernel
theorem ze_Q_analyse_48 : decode zb_Q_analyse 48 = .ok (.ifCond .eq 23, 3) := by decide +kernel
theorem ze_Q_analyse_51 : decode zb_Q_analyse 51 = .ok (.aload_n 0, 1) := by decide +kernel
theorem ze_Q_analyse_52 : decode zb_Q_analyse 52 = .ok (.getfield 44, 3) := by decide +kernel
theorem ze_Q_analyse_55 : decode zb_Q_analyse 55 = .ok (.aload_n 0, 1) := by decide +kernel
theorem ze_Q_analyse_56 : decode zb_Q_analyse 56 = .ok (.getfield 170, 3) := by decide +kernel
theorem ze_Q_analyse_59 : decode zb_Q_analyse 59 = .ok (.iload_n 2, 1) := by decide +kernel
theorem ze_Q_analyse_60 : decode zb_Q_analyse 60 = .ok (.iastore, 1) := by decide +kernel
theorem ze_Q_analyse_61 : decode zb_Q_analyse 61 = .ok (.aload_n 0, 1) := by decide +kernel
theorem ze_Q_analyse_62 : decode zb_Q_analyse 62 = .ok (.dup, 1) := by decide +kernel
theorem ze_Q_analyse_63 : decode zb_Q_analyse 63 = .ok (.getfield 170, 3) := by decide +kernel
theorem ze_Q_analyse_66 : decode zb_Q_analyse 66 = .ok (.iconst 1, 1) := by decide +kernel
theorem ze_Q_analyse_67 : decode zb_Q_analyse 67 = .ok (.iadd, 1) := by decide +kernel
theorem ze_Q_analyse_68 : decode zb_Q_analyse 68 = .ok (.putfield 170, 3) := by decide +kernel
theorem ze_Q_analyse_71 : decode zb_Q_analyse 71 = .ok (.iinc 2 1, 3) := by decide +kernel
theorem ze_Q_analyse_74 : decode zb_Q_analyse 74 = .ok (.goto (-49), 3) := by decide +kernel
theorem ze_Q_analyse_77 : decode zb_Q_analyse 77 = .ok (.aload_n 0, 1) := by decide +kernel
theorem ze_Q_analyse_78 : decode zb_Q_analyse 78 = .ok (.iconst 1, 1) := by decide +kernel
theorem ze_Q_analyse_79 : decode zb_Q_analyse 79 = .ok (.putfield 129, 3) := by decide +kernel
theorem ze_Q_analyse_82 : decode zb_Q_analyse 82 = .ok (.aload_n 0, 1) := by decide +kernel
theorem ze_Q_analyse_83 : decode zb_Q_analyse 83 = .ok (.getfield 170, 3) := by decide +kernel
theorem ze_Q_analyse_86 : decode zb_Q_analyse 86 = .ok (.ireturn, 1) := by decide +kernel
theorem ze_Q_isAttractor_0 : decode zb_Q_isAttractor 0 = .ok (.aload_n 0, 1) := by decide +kernel
theorem ze_Q_isAttractor_1 : decode zb_Q_isAttractor 1 = .ok (.getfield 129, 3) := by decide +kernel
theorem ze_Q_isAttractor_4 : decode zb_Q_isAttractor 4 = .ok (.ifCond .eq 19, 3) := by decide +kernel
theorem ze_Q_isAttractor_7 : decode zb_Q_isAttractor 7 = .ok (.iload_n 1, 1) := by decide +kernel
theorem ze_Q_isAttractor_8 : decode zb_Q_isAttractor 8 = .ok (.ifCond .lt 15, 3) := by decide +kernel
theorem ze_Q_isAttractor_11 : decode zb_Q_isAttractor 11 = .ok (.iload_n 1, 1) := by decide +kernel
theorem ze_Q_isAttractor_12 : decode zb_Q_isAttractor 12 = .ok (.aload_n 0, 1) := by decide +kernel
theorem ze_Q_isAttractor_13 : decode zb_Q_isAttractor 13 = .ok (.getfield 170, 3) := by decide +kernel
theorem ze_Q_isAttractor_16 : decode zb_Q_isAttractor 16 = .ok (.if_icmp .ge 7, 3) := by decide +kernel
theorem ze_Q_isAttractor_19 : decode zb_Q_isAttractor 19 = .ok (.iconst 1, 1) := by decide +kernel
theorem ze_Q_isAttractor_20 : decode zb_Q_isAttractor 20 = .ok (.goto 4, 3) := by decide +kernel
theorem ze_Q_isAttractor_23 : decode zb_Q_isAttractor 23 = .ok (.iconst 0, 1) := by decide +kernel
theorem ze_Q_isAttractor_24 : decode zb_Q_isAttractor 24 = .ok (.ireturn, 1) := by decide +kernel
theorem ze_Q_in_0 : decode zb_Q_in 0 = .ok (.aload_n 0, 1) := by decide +kernel
theorem ze_Q_in_1 : decode zb_Q_in 1 = .ok (.aload_n 0, 1) := by decide +kernel
theorem ze_Q_in_2 : decode zb_Q_in 2 = .ok (.getfield 44, 3) := by decide +kernel
theorem ze_Q_in_5 : decode zb_Q_in 5 = .ok (.iload_n 2, 1) := by decide +kernel
theorem ze_Q_in_6 : decode zb_Q_in 6 = .ok (.iaload, 1) := by decide +kernel
theorem ze_Q_in_7 : decode zb_Q_in 7 = .ok (.iload_n 1, 1) := by decide +kernel
theorem ze_Q_in_8 : decode zb_Q_in 8 = .ok (.invokevirtual 164, 3) := by decide +kernel
theorem ze_Q_in_11 : decode zb_Q_in 11 = .ok (.ireturn, 1) := by decide +kernel
theorem ze_Q_size_0 : decode zb_Q_size 0 = .ok (.iconst 0, 1) := by decide +kernel
theorem ze_Q_size_1 : decode zb_Q_size 1 = .ok (.istore_n 2, 1) := by decide +kernel
theorem ze_Q_size_2 : decode zb_Q_size 2 = .ok (.iconst 0, 1) := by decide +kernel
theorem ze_Q_size_3 : decode zb_Q_size 3 = .ok (.istore_n 3, 1) := by decide +kernel
theorem ze_Q_size_4 : decode zb_Q_size 4 = .ok (.iload_n 3, 1) := by decide +kernel
theorem ze_Q_size_5 : decode zb_Q_size 5 = .ok (.iconst 1, 1) := by decide +kernel
theorem ze_Q_size_6 : decode zb_Q_size 6 = .ok (.aload_n 0, 1) := by decide +kernel
theorem ze_Q_size_7 : decode zb_Q_size 7 = .ok (.getfield 126, 3) := by decide +kernel
theorem ze_Q_size_10 : decode zb_Q_size 10 = .ok (.ishl, 1) := by decide +kernel
theorem ze_Q_size_11 : decode zb_Q_size 11 = .ok (.if_icmp .ge 34, 3) := by decide +kernel
theorem ze_Q_size_14 : decode zb_Q_size 14 = .ok (.aload_n 0, 1) := by decide +kernel
theorem ze_Q_size_15 : decode zb_Q_size 15 = .ok (.iload_n 1, 1) := by decide +kernel
theorem ze_Q_size_16 : decode zb_Q_size 16 = .ok (.invokevirtual 179, 3) := by decide +kernel
theorem ze_Q_size_19 : decode zb_Q_size 19 = .ok (.ifCond .eq 26, 3) := by decide +kernel
theorem ze_Q_size_22 : decode zb_Q_size 22 = .ok (.iload_n 2, 1) := by decide +kernel
theorem ze_Q_size_23 : decode zb_Q_size 23 = .ok (.aload_n 0, 1) := by decide +kernel
theorem ze_Q_size_24 : decode zb_Q_size 24 = .ok (.iload_n 3, 1) := by decide +kernel
theorem ze_Q_size_25 : decode zb_Q_size 25 = .ok (.iload_n 1, 1) := by decide +kernel
theorem ze_Q_size_26 : decode zb_Q_size 26 = .ok (.invokevirtual 182, 3) := by decide +kernel
theorem ze_Q_size_29 : decode zb_Q_size 29 = .ok (.ifCond .eq 7, 3) := by decide +kernel
theorem ze_Q_size_32 : decode zb_Q_size 32 = .ok (.iconst 1, 1) := by decide +kernel
theorem ze_Q_size_33 : decode zb_Q_size 33 = .ok (.goto 4, 3) := by decide +kernel
theorem ze_Q_size_36 : decode zb_Q_size 36 = .ok (.iconst 0, 1) := by decide +kernel
theorem ze_Q_size_37 : decode zb_Q_size 37 = .ok (.iadd, 1) := by decide +kernel
theorem ze_Q_size_38 : decode zb_Q_size 38 = .ok (.istore_n 2, 1) := by decide +kernel
theorem ze_Q_size_39 : decode zb_Q_size 39 = .ok (.iinc 3 1, 3) := by decide +kernel
theorem ze_Q_size_42 : decode zb_Q_size 42 = .ok (.goto (-38), 3) := by decide +kernel
theorem ze_Q_size_45 : decode zb_Q_size 45 = .ok (.iload_n 2, 1) := by decide +kernel
theorem ze_Q_size_46 : decode zb_Q_size 46 = .ok (.ireturn, 1) := by decide +kernel
theorem ze_Q_least_0 : decode zb_Q_least 0 = .ok (.aload_n 0, 1) := by decide +kernel
theorem ze_Q_least_1 : decode zb_Q_least 1 = .ok (.iload_n 1, 1) := by decide +kernel
theorem ze_Q_least_2 : decode zb_Q_least 2 = .ok (.invokevirtual 179, 3) := by decide +kernel
theorem ze_Q_least_5 : decode zb_Q_least 5 = .ok (.ifCond .eq 12, 3) := by decide +kernel
theorem ze_Q_least_8 : decode zb_Q_least 8 = .ok (.aload_n 0, 1) := by decide +kernel
theorem ze_Q_least_9 : decode zb_Q_least 9 = .ok (.getfield 44, 3) := by decide +kernel
theorem ze_Q_least_12 : decode zb_Q_least 12 = .ok (.iload_n 1, 1) := by decide +kernel
theorem ze_Q_least_13 : decode zb_Q_least 13 = .ok (.iaload, 1) := by decide +kernel
theorem ze_Q_least_14 : decode zb_Q_least 14 = .ok (.goto 4, 3) := by decide +kernel
theorem ze_Q_least_17 : decode zb_Q_least 17 = .ok (.iconst (-1), 1) := by decide +kernel
theorem ze_Q_least_18 : decode zb_Q_least 18 = .ok (.ireturn, 1) := by decide +kernel
theorem ze_Q_attractor_0 : decode zb_Q_attractor 0 = .ok (.iconst 0, 1) := by decide +kernel
theorem ze_Q_attractor_1 : decode zb_Q_attractor 1 = .ok (.istore_n 2, 1) := by decide +kernel
theorem ze_Q_attractor_2 : decode zb_Q_attractor 2 = .ok (.iload_n 2, 1) := by decide +kernel
theorem ze_Q_attractor_3 : decode zb_Q_attractor 3 = .ok (.aload_n 0, 1) := by decide +kernel
theorem ze_Q_attractor_4 : decode zb_Q_attractor 4 = .ok (.getfield 170, 3) := by decide +kernel
theorem ze_Q_attractor_7 : decode zb_Q_attractor 7 = .ok (.if_icmp .ge 35, 3) := by decide +kernel
theorem ze_Q_attractor_10 : decode zb_Q_attractor 10 = .ok (.aload_n 0, 1) := by decide +kernel
theorem ze_Q_attractor_11 : decode zb_Q_attractor 11 = .ok (.getfield 129, 3) := by decide +kernel
theorem ze_Q_attractor_14 : decode zb_Q_attractor 14 = .ok (.ifCond .eq 28, 3) := by decide +kernel
theorem ze_Q_attractor_17 : decode zb_Q_attractor 17 = .ok (.aload_n 0, 1) := by decide +kernel
theorem ze_Q_attractor_18 : decode zb_Q_attractor 18 = .ok (.iload_n 1, 1) := by decide +kernel
theorem ze_Q_attractor_19 : decode zb_Q_attractor 19 = .ok (.invokevirtual 136, 3) := by decide +kernel
theorem ze_Q_attractor_22 : decode zb_Q_attractor 22 = .ok (.ifCond .eq 20, 3) := by decide +kernel
theorem ze_Q_attractor_25 : decode zb_Q_attractor 25 = .ok (.aload_n 0, 1) := by decide +kernel
theorem ze_Q_attractor_26 : decode zb_Q_attractor 26 = .ok (.iload_n 1, 1) := by decide +kernel
theorem ze_Q_attractor_27 : decode zb_Q_attractor 27 = .ok (.iload_n 2, 1) := by decide +kernel
theorem ze_Q_attractor_28 : decode zb_Q_attractor 28 = .ok (.invokevirtual 182, 3) := by decide +kernel
theorem ze_Q_attractor_31 : decode zb_Q_attractor 31 = .ok (.ifCond .eq 5, 3) := by decide +kernel
theorem ze_Q_attractor_34 : decode zb_Q_attractor 34 = .ok (.iload_n 2, 1) := by decide +kernel
theorem ze_Q_attractor_35 : decode zb_Q_attractor 35 = .ok (.ireturn, 1) := by decide +kernel
theorem ze_Q_attractor_36 : decode zb_Q_attractor 36 = .ok (.iinc 2 1, 3) := by decide +kernel
theorem ze_Q_attractor_39 : decode zb_Q_attractor 39 = .ok (.goto (-37), 3) := by decide +kernel
theorem ze_Q_attractor_42 : decode zb_Q_attractor 42 = .ok (.iconst (-1), 1) := by decide +kernel
theorem ze_Q_attractor_43 : decode zb_Q_attractor 43 = .ok (.ireturn, 1) := by decide +kernel
theorem ze_Q_basin_0 : decode zb_Q_basin 0 = .ok (.iconst 0, 1) := by decide +kernel
theorem ze_Q_basin_1 : decode zb_Q_basin 1 = .ok (.istore_n 2, 1) := by decide +kernel
theorem ze_Q_basin_2 : decode zb_Q_basin 2 = .ok (.iconst 0, 1) := by decide +kernel
theorem ze_Q_basin_3 : decode zb_Q_basin 3 = .ok (.istore_n 3, 1) := by decide +kernel
theorem ze_Q_basin_4 : decode zb_Q_basin 4 = .ok (.iload_n 3, 1) := by decide +kernel
theorem ze_Q_basin_5 : decode zb_Q_basin 5 = .ok (.iconst 1, 1) := by decide +kernel
theorem ze_Q_basin_6 : decode zb_Q_basin 6 = .ok (.aload_n 0, 1) := by decide +kernel
theorem ze_Q_basin_7 : decode zb_Q_basin 7 = .ok (.getfield 126, 3) := by decide +kernel
theorem ze_Q_basin_10 : decode zb_Q_basin 10 = .ok (.ishl, 1) := by decide +kernel
theorem ze_Q_basin_11 : decode zb_Q_basin 11 = .ok (.if_icmp .ge 39, 3) := by decide +kernel
theorem ze_Q_basin_14 : decode zb_Q_basin 14 = .ok (.aload_n 0, 1) := by decide +kernel
theorem ze_Q_basin_15 : decode zb_Q_basin 15 = .ok (.iload_n 1, 1) := by decide +kernel
theorem ze_Q_basin_16 : decode zb_Q_basin 16 = .ok (.invokevirtual 179, 3) := by decide +kernel
theorem ze_Q_basin_19 : decode zb_Q_basin 19 = .ok (.ifCond .eq 31, 3) := by decide +kernel
theorem ze_Q_basin_22 : decode zb_Q_basin 22 = .ok (.iload_n 2, 1) := by decide +kernel
theorem ze_Q_basin_23 : decode zb_Q_basin 23 = .ok (.aload_n 0, 1) := by decide +kernel
theorem ze_Q_basin_24 : decode zb_Q_basin 24 = .ok (.iload_n 3, 1) := by decide +kernel
theorem ze_Q_basin_25 : decode zb_Q_basin 25 = .ok (.aload_n 0, 1) := by decide +kernel
theorem ze_Q_basin_26 : decode zb_Q_basin 26 = .ok (.getfield 44, 3) := by decide +kernel
theorem ze_Q_basin_29 : decode zb_Q_basin 29 = .ok (.iload_n 1, 1) := by decide +kernel
theorem ze_Q_basin_30 : decode zb_Q_basin 30 = .ok (.iaload, 1) := by decide +kernel
theorem ze_Q_basin_31 : decode zb_Q_basin 31 = .ok (.invokevirtual 164, 3) := by decide +kernel
theorem ze_Q_basin_34 : decode zb_Q_basin 34 = .ok (.ifCond .eq 7, 3) := by decide +kernel
theorem ze_Q_basin_37 : decode zb_Q_basin 37 = .ok (.iconst 1, 1) := by decide +kernel
theorem ze_Q_basin_38 : decode zb_Q_basin 38 = .ok (.goto 4, 3) := by decide +kernel
theorem ze_Q_basin_41 : decode zb_Q_basin 41 = .ok (.iconst 0, 1) := by decide +kernel
theorem ze_Q_basin_42 : decode zb_Q_basin 42 = .ok (.iadd, 1) := by decide +kernel
theorem ze_Q_basin_43 : decode zb_Q_basin 43 = .ok (.istore_n 2, 1) := by decide +kernel
theorem ze_Q_basin_44 : decode zb_Q_basin 44 = .ok (.iinc 3 1, 3) := by decide +kernel
theorem ze_Q_basin_47 : decode zb_Q_basin 47 = .ok (.goto (-43), 3) := by decide +kernel
theorem ze_Q_basin_50 : decode zb_Q_basin 50 = .ok (.iload_n 2, 1) := by decide +kernel
theorem ze_Q_basin_51 : decode zb_Q_basin 51 = .ok (.ireturn, 1) := by decide +kernel
theorem ze_Q_only_0 : decode zb_Q_only 0 = .ok (.iconst 0, 1) := by decide +kernel
theorem ze_Q_only_1 : decode zb_Q_only 1 = .ok (.istore_n 2, 1) := by decide +kernel
theorem ze_Q_only_2 : decode zb_Q_only 2 = .ok (.iconst 0, 1) := by decide +kernel
theorem ze_Q_only_3 : decode zb_Q_only 3 = .ok (.istore_n 3, 1) := by decide +kernel
theorem ze_Q_only_4 : decode zb_Q_only 4 = .ok (.iload_n 3, 1) := by decide +kernel
theorem ze_Q_only_5 : decode zb_Q_only 5 = .ok (.iconst 1, 1) := by decide +kernel
theorem ze_Q_only_6 : decode zb_Q_only 6 = .ok (.aload_n 0, 1) := by decide +kernel
theorem ze_Q_only_7 : decode zb_Q_only 7 = .ok (.getfield 126, 3) := by decide +kernel
theorem ze_Q_only_10 : decode zb_Q_only 10 = .ok (.ishl, 1) := by decide +kernel
theorem ze_Q_only_11 : decode zb_Q_only 11 = .ok (.if_icmp .ge 94, 3) := by decide +kernel
theorem ze_Q_only_14 : decode zb_Q_only 14 = .ok (.aload_n 0, 1) := by decide +kernel
theorem ze_Q_only_15 : decode zb_Q_only 15 = .ok (.iload_n 1, 1) := by decide +kernel
theorem ze_Q_only_16 : decode zb_Q_only 16 = .ok (.invokevirtual 179, 3) := by decide +kernel
theorem ze_Q_only_19 : decode zb_Q_only 19 = .ok (.ifCond .eq 86, 3) := by decide +kernel
theorem ze_Q_only_22 : decode zb_Q_only 22 = .ok (.aload_n 0, 1) := by decide +kernel
theorem ze_Q_only_23 : decode zb_Q_only 23 = .ok (.iload_n 3, 1) := by decide +kernel
theorem ze_Q_only_24 : decode zb_Q_only 24 = .ok (.aload_n 0, 1) := by decide +kernel
theorem ze_Q_only_25 : decode zb_Q_only 25 = .ok (.getfield 44, 3) := by decide +kernel
theorem ze_Q_only_28 : decode zb_Q_only 28 = .ok (.iload_n 1, 1) := by decide +kernel
theorem ze_Q_only_29 : decode zb_Q_only 29 = .ok (.iaload, 1) := by decide +kernel
theorem ze_Q_only_30 : decode zb_Q_only 30 = .ok (.invokevirtual 164, 3) := by decide +kernel
theorem ze_Q_only_33 : decode zb_Q_only 33 = .ok (.istore 4, 2) := by decide +kernel
theorem ze_Q_only_35 : decode zb_Q_only 35 = .ok (.iconst 0, 1) := by decide +kernel
theorem ze_Q_only_36 : decode zb_Q_only 36 = .ok (.istore 5, 2) := by decide +kernel
theorem ze_Q_only_38 : decode zb_Q_only 38 = .ok (.iload 5, 2) := by decide +kernel
theorem ze_Q_only_40 : decode zb_Q_only 40 = .ok (.aload_n 0, 1) := by decide +kernel
theorem ze_Q_only_41 : decode zb_Q_only 41 = .ok (.getfield 170, 3) := by decide +kernel
theorem ze_Q_only_44 : decode zb_Q_only 44 = .ok (.if_icmp .ge 42, 3) := by decide +kernel
theorem ze_Q_only_47 : decode zb_Q_only 47 = .ok (.iload 4, 2) := by decide +kernel
theorem ze_Q_only_49 : decode zb_Q_only 49 = .ok (.ifCond .eq 28, 3) := by decide +kernel
theorem ze_Q_only_52 : decode zb_Q_only 52 = .ok (.iload 5, 2) := by decide +kernel
theorem ze_Q_only_54 : decode zb_Q_only 54 = .ok (.iload_n 1, 1) := by decide +kernel
theorem ze_Q_only_55 : decode zb_Q_only 55 = .ok (.if_icmp .eq 18, 3) := by decide +kernel
theorem ze_Q_only_58 : decode zb_Q_only 58 = .ok (.aload_n 0, 1) := by decide +kernel
theorem ze_Q_only_59 : decode zb_Q_only 59 = .ok (.iload_n 3, 1) := by decide +kernel
theorem ze_Q_only_60 : decode zb_Q_only 60 = .ok (.aload_n 0, 1) := by decide +kernel
theorem ze_Q_only_61 : decode zb_Q_only 61 = .ok (.getfield 44, 3) := by decide +kernel
theorem ze_Q_only_64 : decode zb_Q_only 64 = .ok (.iload 5, 2) := by decide +kernel
theorem ze_Q_only_66 : decode zb_Q_only 66 = .ok (.iaload, 1) := by decide +kernel
theorem ze_Q_only_67 : decode zb_Q_only 67 = .ok (.invokevirtual 164, 3) := by decide +kernel
theorem ze_Q_only_70 : decode zb_Q_only 70 = .ok (.ifCond .ne 7, 3) := by decide +kernel
theorem ze_Q_only_73 : decode zb_Q_only 73 = .ok (.iconst 1, 1) := by decide +kernel
theorem ze_Q_only_74 : decode zb_Q_only 74 = .ok (.goto 4, 3) := by decide +kernel
theorem ze_Q_only_77 : decode zb_Q_only 77 = .ok (.iconst 0, 1) := by decide +kernel
theorem ze_Q_only_78 : decode zb_Q_only 78 = .ok (.istore 4, 2) := by decide +kernel
theorem ze_Q_only_80 : decode zb_Q_only 80 = .ok (.iinc 5 1, 3) := by decide +kernel
theorem ze_Q_only_83 : decode zb_Q_only 83 = .ok (.goto (-45), 3) := by decide +kernel
theorem ze_Q_only_86 : decode zb_Q_only 86 = .ok (.iload_n 2, 1) := by decide +kernel
theorem ze_Q_only_87 : decode zb_Q_only 87 = .ok (.iload 4, 2) := by decide +kernel
theorem ze_Q_only_89 : decode zb_Q_only 89 = .ok (.ifCond .eq 7, 3) := by decide +kernel
theorem ze_Q_only_92 : decode zb_Q_only 92 = .ok (.iconst 1, 1) := by decide +kernel
theorem ze_Q_only_93 : decode zb_Q_only 93 = .ok (.goto 4, 3) := by decide +kernel
theorem ze_Q_only_96 : decode zb_Q_only 96 = .ok (.iconst 0, 1) := by decide +kernel
theorem ze_Q_only_97 : decode zb_Q_only 97 = .ok (.iadd, 1) := by decide +kernel
theorem ze_Q_only_98 : decode zb_Q_only 98 = .ok (.istore_n 2, 1) := by decide +kernel
theorem ze_Q_only_99 : decode zb_Q_only 99 = .ok (.iinc 3 1, 3) := by decide +kernel
theorem ze_Q_only_102 : decode zb_Q_only 102 = .ok (.goto (-98), 3) := by decide +kernel
theorem ze_Q_only_105 : decode zb_Q_only 105 = .ok (.iload_n 2, 1) := by decide +kernel
theorem ze_Q_only_106 : decode zb_Q_only 106 = .ok (.ireturn, 1) := by decide +kernel
theorem ze_Q_fits_0 : decode zb_Q_fits 0 = .ok (.iconst 1, 1) := by decide +kernel
theorem ze_Q_fits_1 : decode zb_Q_fits 1 = .ok (.istore_n 3, 1) := by decide +kernel
theorem ze_Q_fits_2 : decode zb_Q_fits 2 = .ok (.iconst 0, 1) := by decide +kernel
theorem ze_Q_fits_3 : decode zb_Q_fits 3 = .ok (.istore 4, 2) := by decide +kernel
theorem ze_Q_fits_5 : decode zb_Q_fits 5 = .ok (.iload 4, 2) := by decide +kernel
theorem ze_Q_fits_7 : decode zb_Q_fits 7 = .ok (.iload_n 1, 1) := by decide +kernel
theorem ze_Q_fits_8 : decode zb_Q_fits 8 = .ok (.if_icmp .ge 46, 3) := by decide +kernel
theorem ze_Q_fits_11 : decode zb_Q_fits 11 = .ok (.iload_n 2, 1) := by decide +kernel
theorem ze_Q_fits_12 : decode zb_Q_fits 12 = .ok (.iconst 2, 1) := by decide +kernel
theorem ze_Q_fits_13 : decode zb_Q_fits 13 = .ok (.iload 4, 2) := by decide +kernel
theorem ze_Q_fits_15 : decode zb_Q_fits 15 = .ok (.imul, 1) := by decide +kernel
theorem ze_Q_fits_16 : decode zb_Q_fits 16 = .ok (.ishr, 1) := by decide +kernel
theorem ze_Q_fits_17 : decode zb_Q_fits 17 = .ok (.iconst 3, 1) := by decide +kernel
theorem ze_Q_fits_18 : decode zb_Q_fits 18 = .ok (.iand, 1) := by decide +kernel
theorem ze_Q_fits_19 : decode zb_Q_fits 19 = .ok (.istore 5, 2) := by decide +kernel
theorem ze_Q_fits_21 : decode zb_Q_fits 21 = .ok (.iload_n 3, 1) := by decide +kernel
theorem ze_Q_fits_22 : decode zb_Q_fits 22 = .ok (.ifCond .eq 24, 3) := by decide +kernel
theorem ze_Q_fits_25 : decode zb_Q_fits 25 = .ok (.iload 5, 2) := by decide +kernel
theorem ze_Q_fits_27 : decode zb_Q_fits 27 = .ok (.iconst 2, 1) := by decide +kernel
theorem ze_Q_fits_28 : decode zb_Q_fits 28 = .ok (.if_icmp .eq 14, 3) := by decide +kernel
theorem ze_Q_fits_31 : decode zb_Q_fits 31 = .ok (.iload 5, 2) := by decide +kernel
theorem ze_Q_fits_33 : decode zb_Q_fits 33 = .ok (.iload_n 0, 1) := by decide +kernel
theorem ze_Q_fits_34 : decode zb_Q_fits 34 = .ok (.iload 4, 2) := by decide +kernel
theorem ze_Q_fits_36 : decode zb_Q_fits 36 = .ok (.ishr, 1) := by decide +kernel
theorem ze_Q_fits_37 : decode zb_Q_fits 37 = .ok (.iconst 1, 1) := by decide +kernel
theorem ze_Q_fits_38 : decode zb_Q_fits 38 = .ok (.iand, 1) := by decide +kernel
theorem ze_Q_fits_39 : decode zb_Q_fits 39 = .ok (.if_icmp .ne 7, 3) := by decide +kernel
theorem ze_Q_fits_42 : decode zb_Q_fits 42 = .ok (.iconst 1, 1) := by decide +kernel
theorem ze_Q_fits_43 : decode zb_Q_fits 43 = .ok (.goto 4, 3) := by decide +kernel
theorem ze_Q_fits_46 : decode zb_Q_fits 46 = .ok (.iconst 0, 1) := by decide +kernel
theorem ze_Q_fits_47 : decode zb_Q_fits 47 = .ok (.istore_n 3, 1) := by decide +kernel
theorem ze_Q_fits_48 : decode zb_Q_fits 48 = .ok (.iinc 4 1, 3) := by decide +kernel
theorem ze_Q_fits_51 : decode zb_Q_fits 51 = .ok (.goto (-46), 3) := by decide +kernel
theorem ze_Q_fits_54 : decode zb_Q_fits 54 = .ok (.iload_n 3, 1) := by decide +kernel
theorem ze_Q_fits_55 : decode zb_Q_fits 55 = .ok (.ireturn, 1) := by decide +kernel
theorem ze_Q_share_0 : decode zb_Q_share 0 = .ok (.iconst 0, 1) := by decide +kernel
theorem ze_Q_share_1 : decode zb_Q_share 1 = .ok (.istore 4, 2) := by decide +kernel
theorem ze_Q_share_3 : decode zb_Q_share 3 = .ok (.iconst 1, 1) := by decide +kernel
theorem ze_Q_share_4 : decode zb_Q_share 4 = .ok (.istore 5, 2) := by decide +kernel
theorem ze_Q_share_6 : decode zb_Q_share 6 = .ok (.iconst 0, 1) := by decide +kernel
theorem ze_Q_share_7 : decode zb_Q_share 7 = .ok (.istore 6, 2) := by decide +kernel
theorem ze_Q_share_9 : decode zb_Q_share 9 = .ok (.iconst 0, 1) := by decide +kernel
theorem ze_Q_share_10 : decode zb_Q_share 10 = .ok (.istore 7, 2) := by decide +kernel
theorem ze_Q_share_12 : decode zb_Q_share 12 = .ok (.iload 7, 2) := by decide +kernel
theorem ze_Q_share_14 : decode zb_Q_share 14 = .ok (.iconst 1, 1) := by decide +kernel
theorem ze_Q_share_15 : decode zb_Q_share 15 = .ok (.aload_n 0, 1) := by decide +kernel
theorem ze_Q_share_16 : decode zb_Q_share 16 = .ok (.getfield 126, 3) := by decide +kernel
theorem ze_Q_share_19 : decode zb_Q_share 19 = .ok (.ishl, 1) := by decide +kernel
theorem ze_Q_share_20 : decode zb_Q_share 20 = .ok (.if_icmp .ge 104, 3) := by decide +kernel
theorem ze_Q_share_23 : decode zb_Q_share 23 = .ok (.iload 7, 2) := by decide +kernel
theorem ze_Q_share_25 : decode zb_Q_share 25 = .ok (.iload_n 2, 1) := by decide +kernel
theorem ze_Q_share_26 : decode zb_Q_share 26 = .ok (.iload_n 3, 1) := by decide +kernel
theorem ze_Q_share_27 : decode zb_Q_share 27 = .ok (.invokestatic 185, 3) := by decide +kernel
theorem ze_Q_share_30 : decode zb_Q_share 30 = .ok (.ifCond .eq 88, 3) := by decide +kernel
theorem ze_Q_share_33 : decode zb_Q_share 33 = .ok (.iload 4, 2) := by decide +kernel
theorem ze_Q_share_35 : decode zb_Q_share 35 = .ok (.ifCond .ne 13, 3) := by decide +kernel
theorem ze_Q_share_38 : decode zb_Q_share 38 = .ok (.aload_n 0, 1) := by decide +kernel
theorem ze_Q_share_39 : decode zb_Q_share 39 = .ok (.iload 7, 2) := by decide +kernel
theorem ze_Q_share_41 : decode zb_Q_share 41 = .ok (.iload_n 1, 1) := by decide +kernel
theorem ze_Q_share_42 : decode zb_Q_share 42 = .ok (.invokevirtual 182, 3) := by decide +kernel
theorem ze_Q_share_45 : decode zb_Q_share 45 = .ok (.ifCond .eq 7, 3) := by decide +kernel
theorem ze_Q_share_48 : decode zb_Q_share 48 = .ok (.iconst 1, 1) := by decide +kernel
theorem ze_Q_share_49 : decode zb_Q_share 49 = .ok (.goto 4, 3) := by decide +kernel
theorem ze_Q_share_52 : decode zb_Q_share 52 = .ok (.iconst 0, 1) := by decide +kernel
theorem ze_Q_share_53 : decode zb_Q_share 53 = .ok (.istore 4, 2) := by decide +kernel
theorem ze_Q_share_55 : decode zb_Q_share 55 = .ok (.iload 5, 2) := by decide +kernel
theorem ze_Q_share_57 : decode zb_Q_share 57 = .ok (.ifCond .eq 17, 3) := by decide +kernel
theorem ze_Q_share_60 : decode zb_Q_share 60 = .ok (.aload_n 0, 1) := by decide +kernel
theorem ze_Q_share_61 : decode zb_Q_share 61 = .ok (.iload 7, 2) := by decide +kernel
theorem ze_Q_share_63 : decode zb_Q_share 63 = .ok (.iload_n 1, 1) := by decide +kernel
theorem ze_Q_share_64 : decode zb_Q_share 64 = .ok (.invokevirtual 182, 3) := by decide +kernel
theorem ze_Q_share_67 : decode zb_Q_share 67 = .ok (.ifCond .eq 7, 3) := by decide +kernel
theorem ze_Q_share_70 : decode zb_Q_share 70 = .ok (.iconst 1, 1) := by decide +kernel
theorem ze_Q_share_71 : decode zb_Q_share 71 = .ok (.goto 4, 3) := by decide +kernel
theorem ze_Q_share_74 : decode zb_Q_share 74 = .ok (.iconst 0, 1) := by decide +kernel
theorem ze_Q_share_75 : decode zb_Q_share 75 = .ok (.istore 5, 2) := by decide +kernel
theorem ze_Q_share_77 : decode zb_Q_share 77 = .ok (.iload 6, 2) := by decide +kernel
theorem ze_Q_share_79 : decode zb_Q_share 79 = .ok (.ifCond .ne 32, 3) := by decide +kernel
theorem ze_Q_share_82 : decode zb_Q_share 82 = .ok (.iload_n 2, 1) := by decide +kernel
theorem ze_Q_share_83 : decode zb_Q_share 83 = .ok (.aload_n 0, 1) := by decide +kernel
theorem ze_Q_share_84 : decode zb_Q_share 84 = .ok (.getfield 126, 3) := by decide +kernel
theorem ze_Q_share_87 : decode zb_Q_share 87 = .ok (.if_icmp .ge 28, 3) := by decide +kernel
theorem ze_Q_share_90 : decode zb_Q_share 90 = .ok (.aload_n 0, 1) := by decide +kernel
theorem ze_Q_share_91 : decode zb_Q_share 91 = .ok (.iload 7, 2) := by decide +kernel
theorem ze_Q_share_93 : decode zb_Q_share 93 = .ok (.iload_n 1, 1) := by decide +kernel
theorem ze_Q_share_94 : decode zb_Q_share 94 = .ok (.invokevirtual 182, 3) := by decide +kernel
theorem ze_Q_share_97 : decode zb_Q_share 97 = .ok (.aload_n 0, 1) := by decide +kernel
theorem ze_Q_share_98 : decode zb_Q_share 98 = .ok (.iload 7, 2) := by decide +kernel
theorem ze_Q_share_100 : decode zb_Q_share 100 = .ok (.iconst 1, 1) := by decide +kernel
theorem ze_Q_share_101 : decode zb_Q_share 101 = .ok (.iload_n 2, 1) := by decide +kernel
theorem ze_Q_share_102 : decode zb_Q_share 102 = .ok (.ishl, 1) := by decide +kernel
theorem ze_Q_share_103 : decode zb_Q_share 103 = .ok (.ixor, 1) := by decide +kernel
theorem ze_Q_share_104 : decode zb_Q_share 104 = .ok (.iload_n 1, 1) := by decide +kernel
theorem ze_Q_share_105 : decode zb_Q_share 105 = .ok (.invokevirtual 182, 3) := by decide +kernel
theorem ze_Q_share_108 : decode zb_Q_share 108 = .ok (.if_icmp .eq 7, 3) := by decide +kernel
theorem ze_Q_share_111 : decode zb_Q_share 111 = .ok (.iconst 1, 1) := by decide +kernel
theorem ze_Q_share_112 : decode zb_Q_share 112 = .ok (.goto 4, 3) := by decide +kernel
theorem ze_Q_share_115 : decode zb_Q_share 115 = .ok (.iconst 0, 1) := by decide +kernel
theorem ze_Q_share_116 : decode zb_Q_share 116 = .ok (.istore 6, 2) := by decide +kernel
theorem ze_Q_share_118 : decode zb_Q_share 118 = .ok (.iinc 7 1, 3) := by decide +kernel
theorem ze_Q_share_121 : decode zb_Q_share 121 = .ok (.goto (-109), 3) := by decide +kernel
theorem ze_Q_share_124 : decode zb_Q_share 124 = .ok (.iload 4, 2) := by decide +kernel
theorem ze_Q_share_126 : decode zb_Q_share 126 = .ok (.ifCond .ne 7, 3) := by decide +kernel
theorem ze_Q_share_129 : decode zb_Q_share 129 = .ok (.iconst 0, 1) := by decide +kernel
theorem ze_Q_share_130 : decode zb_Q_share 130 = .ok (.goto 22, 3) := by decide +kernel
theorem ze_Q_share_133 : decode zb_Q_share 133 = .ok (.iload 5, 2) := by decide +kernel
theorem ze_Q_share_135 : decode zb_Q_share 135 = .ok (.ifCond .eq 7, 3) := by decide +kernel
theorem ze_Q_share_138 : decode zb_Q_share 138 = .ok (.iconst 1, 1) := by decide +kernel
theorem ze_Q_share_139 : decode zb_Q_share 139 = .ok (.goto 13, 3) := by decide +kernel
theorem ze_Q_share_142 : decode zb_Q_share 142 = .ok (.iload 6, 2) := by decide +kernel
theorem ze_Q_share_144 : decode zb_Q_share 144 = .ok (.ifCond .eq 7, 3) := by decide +kernel
theorem ze_Q_share_147 : decode zb_Q_share 147 = .ok (.iconst 2, 1) := by decide +kernel
theorem ze_Q_share_148 : decode zb_Q_share 148 = .ok (.goto 4, 3) := by decide +kernel
theorem ze_Q_share_151 : decode zb_Q_share 151 = .ok (.iconst 3, 1) := by decide +kernel
theorem ze_Q_share_152 : decode zb_Q_share 152 = .ok (.ireturn, 1) := by decide +kernel
theorem ze_Q_later_0 : decode zb_Q_later 0 = .ok (.aload_n 0, 1) := by decide +kernel
theorem ze_Q_later_1 : decode zb_Q_later 1 = .ok (.getfield 47, 3) := by decide +kernel
theorem ze_Q_later_4 : decode zb_Q_later 4 = .ok (.aload_n 0, 1) := by decide +kernel
theorem ze_Q_later_5 : decode zb_Q_later 5 = .ok (.getfield 188, 3) := by decide +kernel
theorem ze_Q_later_8 : decode zb_Q_later 8 = .ok (.iload_n 1, 1) := by decide +kernel
theorem ze_Q_later_9 : decode zb_Q_later 9 = .ok (.iastore, 1) := by decide +kernel
theorem ze_Q_later_10 : decode zb_Q_later 10 = .ok (.aload_n 0, 1) := by decide +kernel
theorem ze_Q_later_11 : decode zb_Q_later 11 = .ok (.getfield 50, 3) := by decide +kernel
theorem ze_Q_later_14 : decode zb_Q_later 14 = .ok (.aload_n 0, 1) := by decide +kernel
theorem ze_Q_later_15 : decode zb_Q_later 15 = .ok (.getfield 188, 3) := by decide +kernel
theorem ze_Q_later_18 : decode zb_Q_later 18 = .ok (.iload_n 2, 1) := by decide +kernel
theorem ze_Q_later_19 : decode zb_Q_later 19 = .ok (.iastore, 1) := by decide +kernel
theorem ze_Q_later_20 : decode zb_Q_later 20 = .ok (.aload_n 0, 1) := by decide +kernel
theorem ze_Q_later_21 : decode zb_Q_later 21 = .ok (.dup, 1) := by decide +kernel
theorem ze_Q_later_22 : decode zb_Q_later 22 = .ok (.getfield 188, 3) := by decide +kernel
theorem ze_Q_later_25 : decode zb_Q_later 25 = .ok (.iconst 1, 1) := by decide +kernel
theorem ze_Q_later_26 : decode zb_Q_later 26 = .ok (.iadd, 1) := by decide +kernel
theorem ze_Q_later_27 : decode zb_Q_later 27 = .ok (.putfield 188, 3) := by decide +kernel
theorem ze_Q_later_30 : decode zb_Q_later 30 = .ok (.return_, 1) := by decide +kernel
theorem ze_Q_look_0 : decode zb_Q_look 0 = .ok (.iconst 0, 1) := by decide +kernel
theorem ze_Q_look_1 : decode zb_Q_look 1 = .ok (.istore_n 3, 1) := by decide +kernel
theorem ze_Q_look_2 : decode zb_Q_look 2 = .ok (.aload_n 0, 1) := by decide +kernel
theorem ze_Q_look_3 : decode zb_Q_look 3 = .ok (.iconst 0, 1) := by decide +kernel
theorem ze_Q_look_4 : decode zb_Q_look 4 = .ok (.putfield 188, 3) := by decide +kernel
theorem ze_Q_look_7 : decode zb_Q_look 7 = .ok (.aload_n 0, 1) := by decide +kernel
theorem ze_Q_look_8 : decode zb_Q_look 8 = .ok (.iconst 0, 1) := by decide +kernel
theorem ze_Q_look_9 : decode zb_Q_look 9 = .ok (.iconst 0, 1) := by decide +kernel
theorem ze_Q_look_10 : decode zb_Q_look 10 = .ok (.invokevirtual 191, 3) := by decide +kernel
theorem ze_Q_look_13 : decode zb_Q_look 13 = .ok (.aload_n 0, 1) := by decide +kernel
theorem ze_Q_look_14 : decode zb_Q_look 14 = .ok (.getfield 188, 3) := by decide +kernel
theorem ze_Q_look_17 : decode zb_Q_look 17 = .ok (.ifCond .le 158, 3) := by decide +kernel
theorem ze_Q_look_20 : decode zb_Q_look 20 = .ok (.aload_n 0, 1) := by decide +kernel
theorem ze_Q_look_21 : decode zb_Q_look 21 = .ok (.dup, 1) := by decide +kernel
theorem ze_Q_look_22 : decode zb_Q_look 22 = .ok (.getfield 188, 3) := by decide +kernel
theorem ze_Q_look_25 : decode zb_Q_look 25 = .ok (.iconst 1, 1) := by decide +kernel
theorem ze_Q_look_26 : decode zb_Q_look 26 = .ok (.isub, 1) := by decide +kernel
theorem ze_Q_look_27 : decode zb_Q_look 27 = .ok (.putfield 188, 3) := by decide +kernel
theorem ze_Q_look_30 : decode zb_Q_look 30 = .ok (.aload_n 0, 1) := by decide +kernel
theorem ze_Q_look_31 : decode zb_Q_look 31 = .ok (.getfield 47, 3) := by decide +kernel
theorem ze_Q_look_34 : decode zb_Q_look 34 = .ok (.aload_n 0, 1) := by decide +kernel
theorem ze_Q_look_35 : decode zb_Q_look 35 = .ok (.getfield 188, 3) := by decide +kernel
theorem ze_Q_look_38 : decode zb_Q_look 38 = .ok (.iaload, 1) := by decide +kernel
theorem ze_Q_look_39 : decode zb_Q_look 39 = .ok (.istore 4, 2) := by decide +kernel
theorem ze_Q_look_41 : decode zb_Q_look 41 = .ok (.aload_n 0, 1) := by decide +kernel
theorem ze_Q_look_42 : decode zb_Q_look 42 = .ok (.getfield 50, 3) := by decide +kernel
theorem ze_Q_look_45 : decode zb_Q_look 45 = .ok (.aload_n 0, 1) := by decide +kernel
theorem ze_Q_look_46 : decode zb_Q_look 46 = .ok (.getfield 188, 3) := by decide +kernel
theorem ze_Q_look_49 : decode zb_Q_look 49 = .ok (.iaload, 1) := by decide +kernel
theorem ze_Q_look_50 : decode zb_Q_look 50 = .ok (.istore 5, 2) := by decide +kernel
theorem ze_Q_look_52 : decode zb_Q_look 52 = .ok (.aload_n 0, 1) := by decide +kernel
theorem ze_Q_look_53 : decode zb_Q_look 53 = .ok (.iload_n 1, 1) := by decide +kernel
theorem ze_Q_look_54 : decode zb_Q_look 54 = .ok (.iload 4, 2) := by decide +kernel
theorem ze_Q_look_56 : decode zb_Q_look 56 = .ok (.iload 5, 2) := by decide +kernel
theorem ze_Q_look_58 : decode zb_Q_look 58 = .ok (.invokevirtual 195, 3) := by decide +kernel
theorem ze_Q_look_61 : decode zb_Q_look 61 = .ok (.istore 6, 2) := by decide +kernel
theorem ze_Q_look_63 : decode zb_Q_look 63 = .ok (.iload 6, 2) := by decide +kernel
theorem ze_Q_look_65 : decode zb_Q_look 65 = .ok (.iconst 1, 1) := by decide +kernel
theorem ze_Q_look_66 : decode zb_Q_look 66 = .ok (.if_icmp .ne 47, 3) := by decide +kernel
theorem ze_Q_look_69 : decode zb_Q_look 69 = .ok (.iload 4, 2) := by decide +kernel
theorem ze_Q_look_71 : decode zb_Q_look 71 = .ok (.istore 7, 2) := by decide +kernel
theorem ze_Q_look_73 : decode zb_Q_look 73 = .ok (.iload 7, 2) := by decide +kernel
theorem ze_Q_look_75 : decode zb_Q_look 75 = .ok (.aload_n 0, 1) := by decide +kernel
theorem ze_Q_look_76 : decode zb_Q_look 76 = .ok (.getfield 126, 3) := by decide +kernel
theorem ze_Q_look_79 : decode zb_Q_look 79 = .ok (.if_icmp .ge 20, 3) := by decide +kernel
theorem ze_Q_look_82 : decode zb_Q_look 82 = .ok (.iload 5, 2) := by decide +kernel
theorem ze_Q_look_84 : decode zb_Q_look 84 = .ok (.iconst 2, 1) := by decide +kernel
theorem ze_Q_look_85 : decode zb_Q_look 85 = .ok (.iconst 2, 1) := by decide +kernel
theorem ze_Q_look_86 : decode zb_Q_look 86 = .ok (.iload 7, 2) := by decide +kernel
theorem ze_Q_look_88 : decode zb_Q_look 88 = .ok (.imul, 1) := by decide +kernel
theorem ze_Q_look_89 : decode zb_Q_look 89 = .ok (.ishl, 1) := by decide +kernel
theorem ze_Q_look_90 : decode zb_Q_look 90 = .ok (.iadd, 1) := by decide +kernel
theorem ze_Q_look_91 : decode zb_Q_look 91 = .ok (.istore 5, 2) := by decide +kernel
theorem ze_Q_look_93 : decode zb_Q_look 93 = .ok (.iinc 7 1, 3) := by decide +kernel
theorem ze_Q_look_96 : decode zb_Q_look 96 = .ok (.goto (-23), 3) := by decide +kernel
theorem ze_Q_look_99 : decode zb_Q_look 99 = .ok (.iload_n 3, 1) := by decide +kernel
theorem ze_Q_look_100 : decode zb_Q_look 100 = .ok (.iload_n 2, 1) := by decide +kernel
theorem ze_Q_look_101 : decode zb_Q_look 101 = .ok (.if_icmp .ne 6, 3) := by decide +kernel
theorem ze_Q_look_104 : decode zb_Q_look 104 = .ok (.iload 5, 2) := by decide +kernel
theorem ze_Q_look_106 : decode zb_Q_look 106 = .ok (.ireturn, 1) := by decide +kernel
theorem ze_Q_look_107 : decode zb_Q_look 107 = .ok (.iinc 3 1, 3) := by decide +kernel
theorem ze_Q_look_110 : decode zb_Q_look 110 = .ok (.goto 62, 3) := by decide +kernel
theorem ze_Q_look_113 : decode zb_Q_look 113 = .ok (.iload 6, 2) := by decide +kernel
theorem ze_Q_look_115 : decode zb_Q_look 115 = .ok (.iconst 3, 1) := by decide +kernel
theorem ze_Q_look_116 : decode zb_Q_look 116 = .ok (.if_icmp .ne 23, 3) := by decide +kernel
theorem ze_Q_look_119 : decode zb_Q_look 119 = .ok (.aload_n 0, 1) := by decide +kernel
theorem ze_Q_look_120 : decode zb_Q_look 120 = .ok (.iload 4, 2) := by decide +kernel
theorem ze_Q_look_122 : decode zb_Q_look 122 = .ok (.iconst 1, 1) := by decide +kernel
theorem ze_Q_look_123 : decode zb_Q_look 123 = .ok (.iadd, 1) := by decide +kernel
theorem ze_Q_look_124 : decode zb_Q_look 124 = .ok (.iload 5, 2) := by decide +kernel
theorem ze_Q_look_126 : decode zb_Q_look 126 = .ok (.iconst 2, 1) := by decide +kernel
theorem ze_Q_look_127 : decode zb_Q_look 127 = .ok (.iconst 2, 1) := by decide +kernel
theorem ze_Q_look_128 : decode zb_Q_look 128 = .ok (.iload 4, 2) := by decide +kernel
theorem ze_Q_look_130 : decode zb_Q_look 130 = .ok (.imul, 1) := by decide +kernel
theorem ze_Q_look_131 : decode zb_Q_look 131 = .ok (.ishl, 1) := by decide +kernel
theorem ze_Q_look_132 : decode zb_Q_look 132 = .ok (.iadd, 1) := by decide +kernel
theorem ze_Q_look_133 : decode zb_Q_look 133 = .ok (.invokevirtual 191, 3) := by decide +kernel
theorem ze_Q_look_136 : decode zb_Q_look 136 = .ok (.goto 36, 3) := by decide +kernel
theorem ze_Q_look_139 : decode zb_Q_look 139 = .ok (.iload 6, 2) := by decide +kernel
theorem ze_Q_look_141 : decode zb_Q_look 141 = .ok (.iconst 2, 1) := by decide +kernel
theorem ze_Q_look_142 : decode zb_Q_look 142 = .ok (.if_icmp .ne 30, 3) := by decide +kernel
theorem ze_Q_look_145 : decode zb_Q_look 145 = .ok (.aload_n 0, 1) := by decide +kernel
theorem ze_Q_look_146 : decode zb_Q_look 146 = .ok (.iload 4, 2) := by decide +kernel
theorem ze_Q_look_148 : decode zb_Q_look 148 = .ok (.iconst 1, 1) := by decide +kernel
theorem ze_Q_look_149 : decode zb_Q_look 149 = .ok (.iadd, 1) := by decide +kernel
theorem ze_Q_look_150 : decode zb_Q_look 150 = .ok (.iload 5, 2) := by decide +kernel
theorem ze_Q_look_152 : decode zb_Q_look 152 = .ok (.iconst 1, 1) := by decide +kernel
theorem ze_Q_look_153 : decode zb_Q_look 153 = .ok (.iconst 2, 1) := by decide +kernel
theorem ze_Q_look_154 : decode zb_Q_look 154 = .ok (.iload 4, 2) := by decide +kernel
theorem ze_Q_look_156 : decode zb_Q_look 156 = .ok (.imul, 1) := by decide +kernel
theorem ze_Q_look_157 : decode zb_Q_look 157 = .ok (.ishl, 1) := by decide +kernel
theorem ze_Q_look_158 : decode zb_Q_look 158 = .ok (.iadd, 1) := by decide +kernel
theorem ze_Q_look_159 : decode zb_Q_look 159 = .ok (.invokevirtual 191, 3) := by decide +kernel
theorem ze_Q_look_162 : decode zb_Q_look 162 = .ok (.aload_n 0, 1) := by decide +kernel
theorem ze_Q_look_163 : decode zb_Q_look 163 = .ok (.iload 4, 2) := by decide +kernel
theorem ze_Q_look_165 : decode zb_Q_look 165 = .ok (.iconst 1, 1) := by decide +kernel
theorem ze_Q_look_166 : decode zb_Q_look 166 = .ok (.iadd, 1) := by decide +kernel
theorem ze_Q_look_167 : decode zb_Q_look 167 = .ok (.iload 5, 2) := by decide +kernel
theorem ze_Q_look_169 : decode zb_Q_look 169 = .ok (.invokevirtual 191, 3) := by decide +kernel
theorem ze_Q_look_172 : decode zb_Q_look 172 = .ok (.goto (-159), 3) := by decide +kernel
theorem ze_Q_look_175 : decode zb_Q_look 175 = .ok (.iload_n 2, 1) := by decide +kernel
theorem ze_Q_look_176 : decode zb_Q_look 176 = .ok (.ifCond .ge 7, 3) := by decide +kernel
theorem ze_Q_look_179 : decode zb_Q_look 179 = .ok (.iload_n 3, 1) := by decide +kernel
theorem ze_Q_look_180 : decode zb_Q_look 180 = .ok (.goto 4, 3) := by decide +kernel
theorem ze_Q_look_183 : decode zb_Q_look 183 = .ok (.iconst (-1), 1) := by decide +kernel
theorem ze_Q_look_184 : decode zb_Q_look 184 = .ok (.ireturn, 1) := by decide +kernel
theorem ze_Q_cubes_0 : decode zb_Q_cubes 0 = .ok (.aload_n 0, 1) := by decide +kernel
theorem ze_Q_cubes_1 : decode zb_Q_cubes 1 = .ok (.iload_n 1, 1) := by decide +kernel
theorem ze_Q_cubes_2 : decode zb_Q_cubes 2 = .ok (.invokevirtual 179, 3) := by decide +kernel
theorem ze_Q_cubes_5 : decode zb_Q_cubes 5 = .ok (.ifCond .eq 12, 3) := by decide +kernel
theorem ze_Q_cubes_8 : decode zb_Q_cubes 8 = .ok (.aload_n 0, 1) := by decide +kernel
theorem ze_Q_cubes_9 : decode zb_Q_cubes 9 = .ok (.iload_n 1, 1) := by decide +kernel
theorem ze_Q_cubes_10 : decode zb_Q_cubes 10 = .ok (.iconst (-1), 1) := by decide +kernel
theorem ze_Q_cubes_11 : decode zb_Q_cubes 11 = .ok (.invokevirtual 199, 3) := by decide +kernel
theorem ze_Q_cubes_14 : decode zb_Q_cubes 14 = .ok (.goto 4, 3) := by decide +kernel
theorem ze_Q_cubes_17 : decode zb_Q_cubes 17 = .ok (.iconst 0, 1) := by decide +kernel
theorem ze_Q_cubes_18 : decode zb_Q_cubes 18 = .ok (.ireturn, 1) := by decide +kernel
theorem ze_Q_cube_0 : decode zb_Q_cube 0 = .ok (.aload_n 0, 1) := by decide +kernel
theorem ze_Q_cube_1 : decode zb_Q_cube 1 = .ok (.iload_n 1, 1) := by decide +kernel
theorem ze_Q_cube_2 : decode zb_Q_cube 2 = .ok (.invokevirtual 179, 3) := by decide +kernel
theorem ze_Q_cube_5 : decode zb_Q_cube 5 = .ok (.ifCond .eq 16, 3) := by decide +kernel
theorem ze_Q_cube_8 : decode zb_Q_cube 8 = .ok (.iload_n 2, 1) := by decide +kernel
theorem ze_Q_cube_9 : decode zb_Q_cube 9 = .ok (.ifCond .lt 12, 3) := by decide +kernel
theorem ze_Q_cube_12 : decode zb_Q_cube 12 = .ok (.aload_n 0, 1) := by decide +kernel
theorem ze_Q_cube_13 : decode zb_Q_cube 13 = .ok (.iload_n 1, 1) := by decide +kernel
theorem ze_Q_cube_14 : decode zb_Q_cube 14 = .ok (.iload_n 2, 1) := by decide +kernel
theorem ze_Q_cube_15 : decode zb_Q_cube 15 = .ok (.invokevirtual 199, 3) := by decide +kernel
theorem ze_Q_cube_18 : decode zb_Q_cube 18 = .ok (.goto 4, 3) := by decide +kernel
theorem ze_Q_cube_21 : decode zb_Q_cube 21 = .ok (.iconst (-1), 1) := by decide +kernel
theorem ze_Q_cube_22 : decode zb_Q_cube 22 = .ok (.ireturn, 1) := by decide +kernel
theorem ze_S_init_0 : decode zb_S_init 0 = .ok (.aload_n 0, 1) := by decide +kernel
theorem ze_S_init_1 : decode zb_S_init 1 = .ok (.invokespecial 3, 3) := by decide +kernel
theorem ze_S_init_4 : decode zb_S_init 4 = .ok (.aload_n 0, 1) := by decide +kernel
theorem ze_S_init_5 : decode zb_S_init 5 = .ok (.sipush 240, 3) := by decide +kernel
theorem ze_S_init_8 : decode zb_S_init 8 = .ok (.newarray .char, 2) := by decide +kernel
theorem ze_S_init_10 : decode zb_S_init 10 = .ok (.putfield 9, 3) := by decide +kernel
theorem ze_S_init_13 : decode zb_S_init 13 = .ok (.aload_n 0, 1) := by decide +kernel
theorem ze_S_init_14 : decode zb_S_init 14 = .ok (.bipush 7, 2) := by decide +kernel
theorem ze_S_init_16 : decode zb_S_init 16 = .ok (.newarray .char, 2) := by decide +kernel
theorem ze_S_init_18 : decode zb_S_init 18 = .ok (.putfield 15, 3) := by decide +kernel
theorem ze_S_init_21 : decode zb_S_init 21 = .ok (.aload_n 0, 1) := by decide +kernel
theorem ze_S_init_22 : decode zb_S_init 22 = .ok (.sipush 240, 3) := by decide +kernel
theorem ze_S_init_25 : decode zb_S_init 25 = .ok (.newarray .char, 2) := by decide +kernel
theorem ze_S_init_27 : decode zb_S_init 27 = .ok (.putfield 18, 3) := by decide +kernel
theorem ze_S_init_30 : decode zb_S_init 30 = .ok (.aload_n 0, 1) := by decide +kernel
theorem ze_S_init_31 : decode zb_S_init 31 = .ok (.bipush 7, 2) := by decide +kernel
theorem ze_S_init_33 : decode zb_S_init 33 = .ok (.newarray .int, 2) := by decide +kernel
theorem ze_S_init_35 : decode zb_S_init 35 = .ok (.putfield 21, 3) := by decide +kernel
theorem ze_S_init_38 : decode zb_S_init 38 = .ok (.aload_n 0, 1) := by decide +kernel
theorem ze_S_init_39 : decode zb_S_init 39 = .ok (.bipush 26, 2) := by decide +kernel
theorem ze_S_init_41 : decode zb_S_init 41 = .ok (.newarray .int, 2) := by decide +kernel
theorem ze_S_init_43 : decode zb_S_init 43 = .ok (.putfield 25, 3) := by decide +kernel
theorem ze_S_init_46 : decode zb_S_init 46 = .ok (.return_, 1) := by decide +kernel
theorem ze_R_init_0 : decode zb_R_init 0 = .ok (.aload_n 0, 1) := by decide +kernel
theorem ze_R_init_1 : decode zb_R_init 1 = .ok (.invokespecial 3, 3) := by decide +kernel
theorem ze_R_init_4 : decode zb_R_init 4 = .ok (.aload_n 0, 1) := by decide +kernel
theorem ze_R_init_5 : decode zb_R_init 5 = .ok (.bipush 7, 2) := by decide +kernel
theorem ze_R_init_7 : decode zb_R_init 7 = .ok (.newarray .char, 2) := by decide +kernel
theorem ze_R_init_9 : decode zb_R_init 9 = .ok (.putfield 9, 3) := by decide +kernel
theorem ze_R_init_12 : decode zb_R_init 12 = .ok (.aload_n 0, 1) := by decide +kernel
theorem ze_R_init_13 : decode zb_R_init 13 = .ok (.bipush 7, 2) := by decide +kernel
theorem ze_R_init_15 : decode zb_R_init 15 = .ok (.newarray .int, 2) := by decide +kernel
theorem ze_R_init_17 : decode zb_R_init 17 = .ok (.putfield 15, 3) := by decide +kernel
theorem ze_R_init_20 : decode zb_R_init 20 = .ok (.aload_n 0, 1) := by decide +kernel
theorem ze_R_init_21 : decode zb_R_init 21 = .ok (.bipush 7, 2) := by decide +kernel
theorem ze_R_init_23 : decode zb_R_init 23 = .ok (.newarray .long, 2) := by decide +kernel
theorem ze_R_init_25 : decode zb_R_init 25 = .ok (.putfield 19, 3) := by decide +kernel
theorem ze_R_init_28 : decode zb_R_init 28 = .ok (.aload_n 0, 1) := by decide +kernel
theorem ze_R_init_29 : decode zb_R_init 29 = .ok (.bipush 7, 2) := by decide +kernel
theorem ze_R_init_31 : decode zb_R_init 31 = .ok (.newarray .long, 2) := by decide +kernel
theorem ze_R_init_33 : decode zb_R_init 33 = .ok (.putfield 23, 3) := by decide +kernel
theorem ze_R_init_36 : decode zb_R_init 36 = .ok (.aload_n 0, 1) := by decide +kernel
theorem ze_R_init_37 : decode zb_R_init 37 = .ok (.sipush 240, 3) := by decide +kernel
theorem ze_R_init_40 : decode zb_R_init 40 = .ok (.newarray .long, 2) := by decide +kernel
theorem ze_R_init_42 : decode zb_R_init 42 = .ok (.putfield 26, 3) := by decide +kernel
theorem ze_R_init_45 : decode zb_R_init 45 = .ok (.return_, 1) := by decide +kernel
theorem ze_A_init_0 : decode zb_A_init 0 = .ok (.aload_n 0, 1) := by decide +kernel
theorem ze_A_init_1 : decode zb_A_init 1 = .ok (.invokespecial 3, 3) := by decide +kernel
theorem ze_A_init_4 : decode zb_A_init 4 = .ok (.aload_n 0, 1) := by decide +kernel
theorem ze_A_init_5 : decode zb_A_init 5 = .ok (.sipush 128, 3) := by decide +kernel
theorem ze_A_init_8 : decode zb_A_init 8 = .ok (.newarray .long, 2) := by decide +kernel
theorem ze_A_init_10 : decode zb_A_init 10 = .ok (.putfield 9, 3) := by decide +kernel
theorem ze_A_init_13 : decode zb_A_init 13 = .ok (.aload_n 0, 1) := by decide +kernel
theorem ze_A_init_14 : decode zb_A_init 14 = .ok (.sipush 128, 3) := by decide +kernel
theorem ze_A_init_17 : decode zb_A_init 17 = .ok (.newarray .long, 2) := by decide +kernel
theorem ze_A_init_19 : decode zb_A_init 19 = .ok (.putfield 15, 3) := by decide +kernel
theorem ze_A_init_22 : decode zb_A_init 22 = .ok (.aload_n 0, 1) := by decide +kernel
theorem ze_A_init_23 : decode zb_A_init 23 = .ok (.sipush 128, 3) := by decide +kernel
theorem ze_A_init_26 : decode zb_A_init 26 = .ok (.newarray .int, 2) := by decide +kernel
theorem ze_A_init_28 : decode zb_A_init 28 = .ok (.putfield 18, 3) := by decide +kernel
theorem ze_A_init_31 : decode zb_A_init 31 = .ok (.aload_n 0, 1) := by decide +kernel
theorem ze_A_init_32 : decode zb_A_init 32 = .ok (.sipush 128, 3) := by decide +kernel
theorem ze_A_init_35 : decode zb_A_init 35 = .ok (.newarray .int, 2) := by decide +kernel
theorem ze_A_init_37 : decode zb_A_init 37 = .ok (.putfield 22, 3) := by decide +kernel
theorem ze_A_init_40 : decode zb_A_init 40 = .ok (.return_, 1) := by decide +kernel
theorem ze_C_init_0 : decode zb_C_init 0 = .ok (.aload_n 0, 1) := by decide +kernel
theorem ze_C_init_1 : decode zb_C_init 1 = .ok (.invokespecial 3, 3) := by decide +kernel
theorem ze_C_init_4 : decode zb_C_init 4 = .ok (.aload_n 0, 1) := by decide +kernel
theorem ze_C_init_5 : decode zb_C_init 5 = .ok (.sipush 128, 3) := by decide +kernel
theorem ze_C_init_8 : decode zb_C_init 8 = .ok (.newarray .int, 2) := by decide +kernel
theorem ze_C_init_10 : decode zb_C_init 10 = .ok (.putfield 9, 3) := by decide +kernel
theorem ze_C_init_13 : decode zb_C_init 13 = .ok (.aload_n 0, 1) := by decide +kernel
theorem ze_C_init_14 : decode zb_C_init 14 = .ok (.sipush 128, 3) := by decide +kernel
theorem ze_C_init_17 : decode zb_C_init 17 = .ok (.newarray .int, 2) := by decide +kernel
theorem ze_C_init_19 : decode zb_C_init 19 = .ok (.putfield 15, 3) := by decide +kernel
theorem ze_C_init_22 : decode zb_C_init 22 = .ok (.aload_n 0, 1) := by decide +kernel
theorem ze_C_init_23 : decode zb_C_init 23 = .ok (.sipush 128, 3) := by decide +kernel
theorem ze_C_init_26 : decode zb_C_init 26 = .ok (.newarray .int, 2) := by decide +kernel
theorem ze_C_init_28 : decode zb_C_init 28 = .ok (.putfield 18, 3) := by decide +kernel
theorem ze_C_init_31 : decode zb_C_init 31 = .ok (.return_, 1) := by decide +kernel
theorem ze_M_init_0 : decode zb_M_init 0 = .ok (.aload_n 0, 1) := by decide +kernel
theorem ze_M_init_1 : decode zb_M_init 1 = .ok (.invokespecial 3, 3) := by decide +kernel
theorem ze_M_init_4 : decode zb_M_init 4 = .ok (.aload_n 0, 1) := by decide +kernel
theorem ze_M_init_5 : decode zb_M_init 5 = .ok (.sipush 128, 3) := by decide +kernel
theorem ze_M_init_8 : decode zb_M_init 8 = .ok (.newarray .int, 2) := by decide +kernel
theorem ze_M_init_10 : decode zb_M_init 10 = .ok (.putfield 9, 3) := by decide +kernel
theorem ze_M_init_13 : decode zb_M_init 13 = .ok (.return_, 1) := by decide +kernel
theorem ze_N_init_0 : decode zb_N_init 0 = .ok (.aload_n 0, 1) := by decide +kernel
theorem ze_N_init_1 : decode zb_N_init 1 = .ok (.invokespecial 1, 3) := by decide +kernel
theorem ze_N_init_4 : decode zb_N_init 4 = .ok (.aload_n 0, 1) := by decide +kernel
theorem ze_N_init_5 : decode zb_N_init 5 = .ok (.new 7, 3) := by decide +kernel
theorem ze_N_init_8 : decode zb_N_init 8 = .ok (.dup, 1) := by decide +kernel
theorem ze_N_init_9 : decode zb_N_init 9 = .ok (.invokespecial 9, 3) := by decide +kernel
theorem ze_N_init_12 : decode zb_N_init 12 = .ok (.putfield 10, 3) := by decide +kernel
theorem ze_N_init_15 : decode zb_N_init 15 = .ok (.aload_n 0, 1) := by decide +kernel
theorem ze_N_init_16 : decode zb_N_init 16 = .ok (.new 16, 3) := by decide +kernel
theorem ze_N_init_19 : decode zb_N_init 19 = .ok (.dup, 1) := by decide +kernel
theorem ze_N_init_20 : decode zb_N_init 20 = .ok (.invokespecial 18, 3) := by decide +kernel
theorem ze_N_init_23 : decode zb_N_init 23 = .ok (.putfield 19, 3) := by decide +kernel
theorem ze_N_init_26 : decode zb_N_init 26 = .ok (.aload_n 0, 1) := by decide +kernel
theorem ze_N_init_27 : decode zb_N_init 27 = .ok (.new 23, 3) := by decide +kernel
theorem ze_N_init_30 : decode zb_N_init 30 = .ok (.dup, 1) := by decide +kernel
theorem ze_N_init_31 : decode zb_N_init 31 = .ok (.invokespecial 25, 3) := by decide +kernel
theorem ze_N_init_34 : decode zb_N_init 34 = .ok (.putfield 26, 3) := by decide +kernel
theorem ze_N_init_37 : decode zb_N_init 37 = .ok (.aload_n 0, 1) := by decide +kernel
theorem ze_N_init_38 : decode zb_N_init 38 = .ok (.new 30, 3) := by decide +kernel
theorem ze_N_init_41 : decode zb_N_init 41 = .ok (.dup, 1) := by decide +kernel
theorem ze_N_init_42 : decode zb_N_init 42 = .ok (.invokespecial 32, 3) := by decide +kernel
theorem ze_N_init_45 : decode zb_N_init 45 = .ok (.putfield 33, 3) := by decide +kernel
theorem ze_N_init_48 : decode zb_N_init 48 = .ok (.aload_n 0, 1) := by decide +kernel
theorem ze_N_init_49 : decode zb_N_init 49 = .ok (.new 37, 3) := by decide +kernel
theorem ze_N_init_52 : decode zb_N_init 52 = .ok (.dup, 1) := by decide +kernel
theorem ze_N_init_53 : decode zb_N_init 53 = .ok (.invokespecial 39, 3) := by decide +kernel
theorem ze_N_init_56 : decode zb_N_init 56 = .ok (.putfield 40, 3) := by decide +kernel
theorem ze_N_init_59 : decode zb_N_init 59 = .ok (.return_, 1) := by decide +kernel
theorem ze_Q_init_0 : decode zb_Q_init 0 = .ok (.aload_n 0, 1) := by decide +kernel
theorem ze_Q_init_1 : decode zb_Q_init 1 = .ok (.invokespecial 1, 3) := by decide +kernel
theorem ze_Q_init_4 : decode zb_Q_init 4 = .ok (.aload_n 0, 1) := by decide +kernel
theorem ze_Q_init_5 : decode zb_Q_init 5 = .ok (.sipush 240, 3) := by decide +kernel
theorem ze_Q_init_8 : decode zb_Q_init 8 = .ok (.newarray .int, 2) := by decide +kernel
theorem ze_Q_init_10 : decode zb_Q_init 10 = .ok (.putfield 7, 3) := by decide +kernel
theorem ze_Q_init_13 : decode zb_Q_init 13 = .ok (.aload_n 0, 1) := by decide +kernel
theorem ze_Q_init_14 : decode zb_Q_init 14 = .ok (.bipush 7, 2) := by decide +kernel
theorem ze_Q_init_16 : decode zb_Q_init 16 = .ok (.newarray .int, 2) := by decide +kernel
theorem ze_Q_init_18 : decode zb_Q_init 18 = .ok (.putfield 13, 3) := by decide +kernel
theorem ze_Q_init_21 : decode zb_Q_init 21 = .ok (.aload_n 0, 1) := by decide +kernel
theorem ze_Q_init_22 : decode zb_Q_init 22 = .ok (.bipush 7, 2) := by decide +kernel
theorem ze_Q_init_24 : decode zb_Q_init 24 = .ok (.newarray .long, 2) := by decide +kernel
theorem ze_Q_init_26 : decode zb_Q_init 26 = .ok (.putfield 16, 3) := by decide +kernel
theorem ze_Q_init_29 : decode zb_Q_init 29 = .ok (.aload_n 0, 1) := by decide +kernel
theorem ze_Q_init_30 : decode zb_Q_init 30 = .ok (.bipush 7, 2) := by decide +kernel
theorem ze_Q_init_32 : decode zb_Q_init 32 = .ok (.newarray .long, 2) := by decide +kernel
theorem ze_Q_init_34 : decode zb_Q_init 34 = .ok (.putfield 20, 3) := by decide +kernel
theorem ze_Q_init_37 : decode zb_Q_init 37 = .ok (.aload_n 0, 1) := by decide +kernel
theorem ze_Q_init_38 : decode zb_Q_init 38 = .ok (.bipush 7, 2) := by decide +kernel
theorem ze_Q_init_40 : decode zb_Q_init 40 = .ok (.newarray .int, 2) := by decide +kernel
theorem ze_Q_init_42 : decode zb_Q_init 42 = .ok (.putfield 23, 3) := by decide +kernel
theorem ze_Q_init_45 : decode zb_Q_init 45 = .ok (.aload_n 0, 1) := by decide +kernel
theorem ze_Q_init_46 : decode zb_Q_init 46 = .ok (.bipush 7, 2) := by decide +kernel
theorem ze_Q_init_48 : decode zb_Q_init 48 = .ok (.newarray .int, 2) := by decide +kernel
theorem ze_Q_init_50 : decode zb_Q_init 50 = .ok (.putfield 26, 3) := by decide +kernel
theorem ze_Q_init_53 : decode zb_Q_init 53 = .ok (.aload_n 0, 1) := by decide +kernel
theorem ze_Q_init_54 : decode zb_Q_init 54 = .ok (.bipush 64, 2) := by decide +kernel
theorem ze_Q_init_56 : decode zb_Q_init 56 = .ok (.newarray .int, 2) := by decide +kernel
theorem ze_Q_init_58 : decode zb_Q_init 58 = .ok (.putfield 29, 3) := by decide +kernel
theorem ze_Q_init_61 : decode zb_Q_init 61 = .ok (.aload_n 0, 1) := by decide +kernel
theorem ze_Q_init_62 : decode zb_Q_init 62 = .ok (.bipush 64, 2) := by decide +kernel
theorem ze_Q_init_64 : decode zb_Q_init 64 = .ok (.newarray .long, 2) := by decide +kernel
theorem ze_Q_init_66 : decode zb_Q_init 66 = .ok (.putfield 32, 3) := by decide +kernel
theorem ze_Q_init_69 : decode zb_Q_init 69 = .ok (.aload_n 0, 1) := by decide +kernel
theorem ze_Q_init_70 : decode zb_Q_init 70 = .ok (.bipush 64, 2) := by decide +kernel
theorem ze_Q_init_72 : decode zb_Q_init 72 = .ok (.newarray .long, 2) := by decide +kernel
theorem ze_Q_init_74 : decode zb_Q_init 74 = .ok (.putfield 35, 3) := by decide +kernel
theorem ze_Q_init_77 : decode zb_Q_init 77 = .ok (.aload_n 0, 1) := by decide +kernel
theorem ze_Q_init_78 : decode zb_Q_init 78 = .ok (.sipush 128, 3) := by decide +kernel
theorem ze_Q_init_81 : decode zb_Q_init 81 = .ok (.newarray .long, 2) := by decide +kernel
theorem ze_Q_init_83 : decode zb_Q_init 83 = .ok (.putfield 38, 3) := by decide +kernel
theorem ze_Q_init_86 : decode zb_Q_init 86 = .ok (.aload_n 0, 1) := by decide +kernel
theorem ze_Q_init_87 : decode zb_Q_init 87 = .ok (.sipush 128, 3) := by decide +kernel
theorem ze_Q_init_90 : decode zb_Q_init 90 = .ok (.newarray .long, 2) := by decide +kernel
theorem ze_Q_init_92 : decode zb_Q_init 92 = .ok (.putfield 41, 3) := by decide +kernel
theorem ze_Q_init_95 : decode zb_Q_init 95 = .ok (.aload_n 0, 1) := by decide +kernel
theorem ze_Q_init_96 : decode zb_Q_init 96 = .ok (.sipush 128, 3) := by decide +kernel
theorem ze_Q_init_99 : decode zb_Q_init 99 = .ok (.newarray .int, 2) := by decide +kernel
theorem ze_Q_init_101 : decode zb_Q_init 101 = .ok (.putfield 44, 3) := by decide +kernel
theorem ze_Q_init_104 : decode zb_Q_init 104 = .ok (.aload_n 0, 1) := by decide +kernel
theorem ze_Q_init_105 : decode zb_Q_init 105 = .ok (.bipush 32, 2) := by decide +kernel
theorem ze_Q_init_107 : decode zb_Q_init 107 = .ok (.newarray .int, 2) := by decide +kernel
theorem ze_Q_init_109 : decode zb_Q_init 109 = .ok (.putfield 47, 3) := by decide +kernel
theorem ze_Q_init_112 : decode zb_Q_init 112 = .ok (.aload_n 0, 1) := by decide +kernel
theorem ze_Q_init_113 : decode zb_Q_init 113 = .ok (.bipush 32, 2) := by decide +kernel
theorem ze_Q_init_115 : decode zb_Q_init 115 = .ok (.newarray .int, 2) := by decide +kernel
theorem ze_Q_init_117 : decode zb_Q_init 117 = .ok (.putfield 50, 3) := by decide +kernel
theorem ze_Q_init_120 : decode zb_Q_init 120 = .ok (.return_, 1) := by decide +kernel
theorem ze_L_law_0 : decode code 0 = .ok (.new 7, 3) := by decide +kernel
theorem ze_L_law_3 : decode code 3 = .ok (.dup, 1) := by decide +kernel
theorem ze_L_law_4 : decode code 4 = .ok (.invokespecial 9, 3) := by decide +kernel
theorem ze_L_law_7 : decode code 7 = .ok (.astore_n 1, 1) := by decide +kernel
theorem ze_L_law_8 : decode code 8 = .ok (.new 10, 3) := by decide +kernel
theorem ze_L_law_11 : decode code 11 = .ok (.dup, 1) := by decide +kernel
theorem ze_L_law_12 : decode code 12 = .ok (.invokespecial 12, 3) := by decide +kernel
theorem ze_L_law_15 : decode code 15 = .ok (.astore_n 2, 1) := by decide +kernel
theorem ze_L_law_16 : decode code 16 = .ok (.iconst 0, 1) := by decide +kernel
theorem ze_L_law_17 : decode code 17 = .ok (.istore_n 3, 1) := by decide +kernel
theorem ze_L_law_18 : decode code 18 = .ok (.iload_n 3, 1) := by decide +kernel
theorem ze_L_law_19 : decode code 19 = .ok (.aload_n 0, 1) := by decide +kernel
theorem ze_L_law_20 : decode code 20 = .ok (.arraylength, 1) := by decide +kernel
theorem ze_L_law_21 : decode code 21 = .ok (.iconst 3, 1) := by decide +kernel
theorem ze_L_law_22 : decode code 22 = .ok (.isub, 1) := by decide +kernel
theorem ze_L_law_23 : decode code 23 = .ok (.if_icmp .gt 536, 3) := by decide +kernel
theorem ze_L_law_26 : decode code 26 = .ok (.aload_n 0, 1) := by decide +kernel
theorem ze_L_law_27 : decode code 27 = .ok (.iload_n 3, 1) := by decide +kernel
theorem ze_L_law_28 : decode code 28 = .ok (.iaload, 1) := by decide +kernel
theorem ze_L_law_29 : decode code 29 = .ok (.bipush 31, 2) := by decide +kernel
theorem ze_L_law_31 : decode code 31 = .ok (.iand, 1) := by decide +kernel
theorem ze_L_law_32 : decode code 32 = .ok (.tableswitch 521 0 16 #[84, 137, 148, 161, 174, 199, 232, 265, 288, 311, 350, 373, 396, 419, 442, 465, 488], 84) := by decide +kernel
theorem ze_L_law_116 : decode code 116 = .ok (.aload_n 1, 1) := by decide +kernel
theorem ze_L_law_117 : decode code 117 = .ok (.aload_n 0, 1) := by decide +kernel
theorem ze_L_law_118 : decode code 118 = .ok (.iload_n 3, 1) := by decide +kernel
theorem ze_L_law_119 : decode code 119 = .ok (.iconst 1, 1) := by decide +kernel
theorem ze_L_law_120 : decode code 120 = .ok (.iadd, 1) := by decide +kernel
theorem ze_L_law_121 : decode code 121 = .ok (.iaload, 1) := by decide +kernel
theorem ze_L_law_122 : decode code 122 = .ok (.i2l, 1) := by decide +kernel
theorem ze_L_law_123 : decode code 123 = .ok (.bipush 32, 2) := by decide +kernel
theorem ze_L_law_125 : decode code 125 = .ok (.lshl, 1) := by decide +kernel
theorem ze_L_law_126 : decode code 126 = .ok (.aload_n 0, 1) := by decide +kernel
theorem ze_L_law_127 : decode code 127 = .ok (.iload_n 3, 1) := by decide +kernel
theorem ze_L_law_128 : decode code 128 = .ok (.iconst 2, 1) := by decide +kernel
theorem ze_L_law_129 : decode code 129 = .ok (.iadd, 1) := by decide +kernel
theorem ze_L_law_130 : decode code 130 = .ok (.iaload, 1) := by decide +kernel
theorem ze_L_law_131 : decode code 131 = .ok (.i2l, 1) := by decide +kernel
theorem ze_L_law_132 : decode code 132 = .ok (.ldc2_w 13, 3) := by decide +kernel
theorem ze_L_law_135 : decode code 135 = .ok (.land, 1) := by decide +kernel
theorem ze_L_law_136 : decode code 136 = .ok (.lor, 1) := by decide +kernel
theorem ze_L_law_137 : decode code 137 = .ok (.invokevirtual 15, 3) := by decide +kernel
theorem ze_L_law_140 : decode code 140 = .ok (.aload_n 2, 1) := by decide +kernel
theorem ze_L_law_141 : decode code 141 = .ok (.aload_n 0, 1) := by decide +kernel
theorem ze_L_law_142 : decode code 142 = .ok (.iload_n 3, 1) := by decide +kernel
theorem ze_L_law_143 : decode code 143 = .ok (.iconst 1, 1) := by decide +kernel
theorem ze_L_law_144 : decode code 144 = .ok (.iadd, 1) := by decide +kernel
theorem ze_L_law_145 : decode code 145 = .ok (.iaload, 1) := by decide +kernel
theorem ze_L_law_146 : decode code 146 = .ok (.i2l, 1) := by decide +kernel
theorem ze_L_law_147 : decode code 147 = .ok (.bipush 32, 2) := by decide +kernel
theorem ze_L_law_149 : decode code 149 = .ok (.lshl, 1) := by decide +kernel
theorem ze_L_law_150 : decode code 150 = .ok (.aload_n 0, 1) := by decide +kernel
theorem ze_L_law_151 : decode code 151 = .ok (.iload_n 3, 1) := by decide +kernel
theorem ze_L_law_152 : decode code 152 = .ok (.iconst 2, 1) := by decide +kernel
theorem ze_L_law_153 : decode code 153 = .ok (.iadd, 1) := by decide +kernel
theorem ze_L_law_154 : decode code 154 = .ok (.iaload, 1) := by decide +kernel
theorem ze_L_law_155 : decode code 155 = .ok (.i2l, 1) := by decide +kernel
theorem ze_L_law_156 : decode code 156 = .ok (.ldc2_w 13, 3) := by decide +kernel
theorem ze_L_law_159 : decode code 159 = .ok (.land, 1) := by decide +kernel
theorem ze_L_law_160 : decode code 160 = .ok (.lor, 1) := by decide +kernel
theorem ze_L_law_161 : decode code 161 = .ok (.invokevirtual 19, 3) := by decide +kernel
theorem ze_L_law_164 : decode code 164 = .ok (.if_icmp .eq 389, 3) := by decide +kernel
theorem ze_L_law_167 : decode code 167 = .ok (.iconst 0, 1) := by decide +kernel
theorem ze_L_law_168 : decode code 168 = .ok (.ireturn, 1) := by decide +kernel
theorem ze_L_law_169 : decode code 169 = .ok (.aload_n 1, 1) := by decide +kernel
theorem ze_L_law_170 : decode code 170 = .ok (.invokevirtual 20, 3) := by decide +kernel
theorem ze_L_law_173 : decode code 173 = .ok (.aload_n 2, 1) := by decide +kernel
theorem ze_L_law_174 : decode code 174 = .ok (.invokevirtual 23, 3) := by decide +kernel
theorem ze_L_law_177 : decode code 177 = .ok (.goto 376, 3) := by decide +kernel
theorem ze_L_law_180 : decode code 180 = .ok (.aload_n 1, 1) := by decide +kernel
theorem ze_L_law_181 : decode code 181 = .ok (.invokevirtual 24, 3) := by decide +kernel
theorem ze_L_law_184 : decode code 184 = .ok (.aload_n 2, 1) := by decide +kernel
theorem ze_L_law_185 : decode code 185 = .ok (.invokevirtual 28, 3) := by decide +kernel
theorem ze_L_law_188 : decode code 188 = .ok (.if_icmp .eq 365, 3) := by decide +kernel
theorem ze_L_law_191 : decode code 191 = .ok (.iconst 0, 1) := by decide +kernel
theorem ze_L_law_192 : decode code 192 = .ok (.ireturn, 1) := by decide +kernel
theorem ze_L_law_193 : decode code 193 = .ok (.aload_n 1, 1) := by decide +kernel
theorem ze_L_law_194 : decode code 194 = .ok (.invokevirtual 29, 3) := by decide +kernel
theorem ze_L_law_197 : decode code 197 = .ok (.aload_n 2, 1) := by decide +kernel
theorem ze_L_law_198 : decode code 198 = .ok (.invokevirtual 32, 3) := by decide +kernel
theorem ze_L_law_201 : decode code 201 = .ok (.if_icmp .eq 352, 3) := by decide +kernel
theorem ze_L_law_204 : decode code 204 = .ok (.iconst 0, 1) := by decide +kernel
theorem ze_L_law_205 : decode code 205 = .ok (.ireturn, 1) := by decide +kernel
theorem ze_L_law_206 : decode code 206 = .ok (.aload_n 1, 1) := by decide +kernel
theorem ze_L_law_207 : decode code 207 = .ok (.aload_n 0, 1) := by decide +kernel
theorem ze_L_law_208 : decode code 208 = .ok (.iload_n 3, 1) := by decide +kernel
theorem ze_L_law_209 : decode code 209 = .ok (.iconst 1, 1) := by decide +kernel
theorem ze_L_law_210 : decode code 210 = .ok (.iadd, 1) := by decide +kernel
theorem ze_L_law_211 : decode code 211 = .ok (.iaload, 1) := by decide +kernel
theorem ze_L_law_212 : decode code 212 = .ok (.i2c, 1) := by decide +kernel
theorem ze_L_law_213 : decode code 213 = .ok (.invokevirtual 33, 3) := by decide +kernel
theorem ze_L_law_216 : decode code 216 = .ok (.aload_n 2, 1) := by decide +kernel
theorem ze_L_law_217 : decode code 217 = .ok (.aload_n 0, 1) := by decide +kernel
theorem ze_L_law_218 : decode code 218 = .ok (.iload_n 3, 1) := by decide +kernel
theorem ze_L_law_219 : decode code 219 = .ok (.iconst 1, 1) := by decide +kernel
theorem ze_L_law_220 : decode code 220 = .ok (.iadd, 1) := by decide +kernel
theorem ze_L_law_221 : decode code 221 = .ok (.iaload, 1) := by decide +kernel
theorem ze_L_law_222 : decode code 222 = .ok (.i2c, 1) := by decide +kernel
theorem ze_L_law_223 : decode code 223 = .ok (.invokevirtual 37, 3) := by decide +kernel
theorem ze_L_law_226 : decode code 226 = .ok (.if_icmp .eq 327, 3) := by decide +kernel
theorem ze_L_law_229 : decode code 229 = .ok (.iconst 0, 1) := by decide +kernel
theorem ze_L_law_230 : decode code 230 = .ok (.ireturn, 1) := by decide +kernel
theorem ze_L_law_231 : decode code 231 = .ok (.aload_n 1, 1) := by decide +kernel
theorem ze_L_law_232 : decode code 232 = .ok (.aload_n 0, 1) := by decide +kernel
theorem ze_L_law_233 : decode code 233 = .ok (.iload_n 3, 1) := by decide +kernel
theorem ze_L_law_234 : decode code 234 = .ok (.iconst 1, 1) := by decide +kernel
theorem ze_L_law_235 : decode code 235 = .ok (.iadd, 1) := by decide +kernel
theorem ze_L_law_236 : decode code 236 = .ok (.iaload, 1) := by decide +kernel
theorem ze_L_law_237 : decode code 237 = .ok (.aload_n 0, 1) := by decide +kernel
theorem ze_L_law_238 : decode code 238 = .ok (.iload_n 3, 1) := by decide +kernel
theorem ze_L_law_239 : decode code 239 = .ok (.iconst 2, 1) := by decide +kernel
theorem ze_L_law_240 : decode code 240 = .ok (.iadd, 1) := by decide +kernel
theorem ze_L_law_241 : decode code 241 = .ok (.iaload, 1) := by decide +kernel
theorem ze_L_law_242 : decode code 242 = .ok (.invokevirtual 38, 3) := by decide +kernel
theorem ze_L_law_245 : decode code 245 = .ok (.aload_n 2, 1) := by decide +kernel
theorem ze_L_law_246 : decode code 246 = .ok (.aload_n 0, 1) := by decide +kernel
theorem ze_L_law_247 : decode code 247 = .ok (.iload_n 3, 1) := by decide +kernel
theorem ze_L_law_248 : decode code 248 = .ok (.iconst 1, 1) := by decide +kernel
theorem ze_L_law_249 : decode code 249 = .ok (.iadd, 1) := by decide +kernel
theorem ze_L_law_250 : decode code 250 = .ok (.iaload, 1) := by decide +kernel
theorem ze_L_law_251 : decode code 251 = .ok (.aload_n 0, 1) := by decide +kernel
theorem ze_L_law_252 : decode code 252 = .ok (.iload_n 3, 1) := by decide +kernel
theorem ze_L_law_253 : decode code 253 = .ok (.iconst 2, 1) := by decide +kernel
theorem ze_L_law_254 : decode code 254 = .ok (.iadd, 1) := by decide +kernel
theorem ze_L_law_255 : decode code 255 = .ok (.iaload, 1) := by decide +kernel
theorem ze_L_law_256 : decode code 256 = .ok (.invokevirtual 42, 3) := by decide +kernel
theorem ze_L_law_259 : decode code 259 = .ok (.if_icmp .eq 294, 3) := by decide +kernel
theorem ze_L_law_262 : decode code 262 = .ok (.iconst 0, 1) := by decide +kernel
theorem ze_L_law_263 : decode code 263 = .ok (.ireturn, 1) := by decide +kernel
theorem ze_L_law_264 : decode code 264 = .ok (.aload_n 1, 1) := by decide +kernel
theorem ze_L_law_265 : decode code 265 = .ok (.aload_n 0, 1) := by decide +kernel
theorem ze_L_law_266 : decode code 266 = .ok (.iload_n 3, 1) := by decide +kernel
theorem ze_L_law_267 : decode code 267 = .ok (.iconst 1, 1) := by decide +kernel
theorem ze_L_law_268 : decode code 268 = .ok (.iadd, 1) := by decide +kernel
theorem ze_L_law_269 : decode code 269 = .ok (.iaload, 1) := by decide +kernel
theorem ze_L_law_270 : decode code 270 = .ok (.aload_n 0, 1) := by decide +kernel
theorem ze_L_law_271 : decode code 271 = .ok (.iload_n 3, 1) := by decide +kernel
theorem ze_L_law_272 : decode code 272 = .ok (.iconst 2, 1) := by decide +kernel
theorem ze_L_law_273 : decode code 273 = .ok (.iadd, 1) := by decide +kernel
theorem ze_L_law_274 : decode code 274 = .ok (.iaload, 1) := by decide +kernel
theorem ze_L_law_275 : decode code 275 = .ok (.invokevirtual 43, 3) := by decide +kernel
theorem ze_L_law_278 : decode code 278 = .ok (.aload_n 2, 1) := by decide +kernel
theorem ze_L_law_279 : decode code 279 = .ok (.aload_n 0, 1) := by decide +kernel
theorem ze_L_law_280 : decode code 280 = .ok (.iload_n 3, 1) := by decide +kernel
theorem ze_L_law_281 : decode code 281 = .ok (.iconst 1, 1) := by decide +kernel
theorem ze_L_law_282 : decode code 282 = .ok (.iadd, 1) := by decide +kernel
theorem ze_L_law_283 : decode code 283 = .ok (.iaload, 1) := by decide +kernel
theorem ze_L_law_284 : decode code 284 = .ok (.aload_n 0, 1) := by decide +kernel
theorem ze_L_law_285 : decode code 285 = .ok (.iload_n 3, 1) := by decide +kernel
theorem ze_L_law_286 : decode code 286 = .ok (.iconst 2, 1) := by decide +kernel
theorem ze_L_law_287 : decode code 287 = .ok (.iadd, 1) := by decide +kernel
theorem ze_L_law_288 : decode code 288 = .ok (.iaload, 1) := by decide +kernel
theorem ze_L_law_289 : decode code 289 = .ok (.invokevirtual 47, 3) := by decide +kernel
theorem ze_L_law_292 : decode code 292 = .ok (.if_icmp .eq 261, 3) := by decide +kernel
theorem ze_L_law_295 : decode code 295 = .ok (.iconst 0, 1) := by decide +kernel
theorem ze_L_law_296 : decode code 296 = .ok (.ireturn, 1) := by decide +kernel
theorem ze_L_law_297 : decode code 297 = .ok (.aload_n 1, 1) := by decide +kernel
theorem ze_L_law_298 : decode code 298 = .ok (.aload_n 0, 1) := by decide +kernel
theorem ze_L_law_299 : decode code 299 = .ok (.iload_n 3, 1) := by decide +kernel
theorem ze_L_law_300 : decode code 300 = .ok (.iconst 1, 1) := by decide +kernel
theorem ze_L_law_301 : decode code 301 = .ok (.iadd, 1) := by decide +kernel
theorem ze_L_law_302 : decode code 302 = .ok (.iaload, 1) := by decide +kernel
theorem ze_L_law_303 : decode code 303 = .ok (.invokevirtual 48, 3) := by decide +kernel
theorem ze_L_law_306 : decode code 306 = .ok (.aload_n 2, 1) := by decide +kernel
theorem ze_L_law_307 : decode code 307 = .ok (.aload_n 0, 1) := by decide +kernel
theorem ze_L_law_308 : decode code 308 = .ok (.iload_n 3, 1) := by decide +kernel
theorem ze_L_law_309 : decode code 309 = .ok (.iconst 1, 1) := by decide +kernel
theorem ze_L_law_310 : decode code 310 = .ok (.iadd, 1) := by decide +kernel
theorem ze_L_law_311 : decode code 311 = .ok (.iaload, 1) := by decide +kernel
theorem ze_L_law_312 : decode code 312 = .ok (.invokevirtual 52, 3) := by decide +kernel
theorem ze_L_law_315 : decode code 315 = .ok (.if_icmp .eq 238, 3) := by decide +kernel
theorem ze_L_law_318 : decode code 318 = .ok (.iconst 0, 1) := by decide +kernel
theorem ze_L_law_319 : decode code 319 = .ok (.ireturn, 1) := by decide +kernel
theorem ze_L_law_320 : decode code 320 = .ok (.aload_n 1, 1) := by decide +kernel
theorem ze_L_law_321 : decode code 321 = .ok (.aload_n 0, 1) := by decide +kernel
theorem ze_L_law_322 : decode code 322 = .ok (.iload_n 3, 1) := by decide +kernel
theorem ze_L_law_323 : decode code 323 = .ok (.iconst 1, 1) := by decide +kernel
theorem ze_L_law_324 : decode code 324 = .ok (.iadd, 1) := by decide +kernel
theorem ze_L_law_325 : decode code 325 = .ok (.iaload, 1) := by decide +kernel
theorem ze_L_law_326 : decode code 326 = .ok (.invokevirtual 53, 3) := by decide +kernel
theorem ze_L_law_329 : decode code 329 = .ok (.aload_n 2, 1) := by decide +kernel
theorem ze_L_law_330 : decode code 330 = .ok (.aload_n 0, 1) := by decide +kernel
theorem ze_L_law_331 : decode code 331 = .ok (.iload_n 3, 1) := by decide +kernel
theorem ze_L_law_332 : decode code 332 = .ok (.iconst 1, 1) := by decide +kernel
theorem ze_L_law_333 : decode code 333 = .ok (.iadd, 1) := by decide +kernel
theorem ze_L_law_334 : decode code 334 = .ok (.iaload, 1) := by decide +kernel
theorem ze_L_law_335 : decode code 335 = .ok (.invokevirtual 56, 3) := by decide +kernel
theorem ze_L_law_338 : decode code 338 = .ok (.if_icmp .eq 215, 3) := by decide +kernel
theorem ze_L_law_341 : decode code 341 = .ok (.iconst 0, 1) := by decide +kernel
theorem ze_L_law_342 : decode code 342 = .ok (.ireturn, 1) := by decide +kernel
theorem ze_L_law_343 : decode code 343 = .ok (.aload_n 1, 1) := by decide +kernel
theorem ze_L_law_344 : decode code 344 = .ok (.aload_n 0, 1) := by decide +kernel
theorem ze_L_law_345 : decode code 345 = .ok (.iload_n 3, 1) := by decide +kernel
theorem ze_L_law_346 : decode code 346 = .ok (.iconst 1, 1) := by decide +kernel
theorem ze_L_law_347 : decode code 347 = .ok (.iadd, 1) := by decide +kernel
theorem ze_L_law_348 : decode code 348 = .ok (.iaload, 1) := by decide +kernel
theorem ze_L_law_349 : decode code 349 = .ok (.ifCond .eq 7, 3) := by decide +kernel
theorem ze_L_law_352 : decode code 352 = .ok (.iconst 1, 1) := by decide +kernel
theorem ze_L_law_353 : decode code 353 = .ok (.goto 4, 3) := by decide +kernel
theorem ze_L_law_356 : decode code 356 = .ok (.iconst 0, 1) := by decide +kernel
theorem ze_L_law_357 : decode code 357 = .ok (.invokevirtual 57, 3) := by decide +kernel
theorem ze_L_law_360 : decode code 360 = .ok (.aload_n 2, 1) := by decide +kernel
theorem ze_L_law_361 : decode code 361 = .ok (.aload_n 0, 1) := by decide +kernel
theorem ze_L_law_362 : decode code 362 = .ok (.iload_n 3, 1) := by decide +kernel
theorem ze_L_law_363 : decode code 363 = .ok (.iconst 1, 1) := by decide +kernel
theorem ze_L_law_364 : decode code 364 = .ok (.iadd, 1) := by decide +kernel
theorem ze_L_law_365 : decode code 365 = .ok (.iaload, 1) := by decide +kernel
theorem ze_L_law_366 : decode code 366 = .ok (.ifCond .eq 7, 3) := by decide +kernel
theorem ze_L_law_369 : decode code 369 = .ok (.iconst 1, 1) := by decide +kernel
theorem ze_L_law_370 : decode code 370 = .ok (.goto 4, 3) := by decide +kernel
theorem ze_L_law_373 : decode code 373 = .ok (.iconst 0, 1) := by decide +kernel
theorem ze_L_law_374 : decode code 374 = .ok (.invokevirtual 61, 3) := by decide +kernel
theorem ze_L_law_377 : decode code 377 = .ok (.if_icmp .eq 176, 3) := by decide +kernel
theorem ze_L_law_380 : decode code 380 = .ok (.iconst 0, 1) := by decide +kernel
theorem ze_L_law_381 : decode code 381 = .ok (.ireturn, 1) := by decide +kernel
theorem ze_L_law_382 : decode code 382 = .ok (.aload_n 1, 1) := by decide +kernel
theorem ze_L_law_383 : decode code 383 = .ok (.aload_n 0, 1) := by decide +kernel
theorem ze_L_law_384 : decode code 384 = .ok (.iload_n 3, 1) := by decide +kernel
theorem ze_L_law_385 : decode code 385 = .ok (.iconst 1, 1) := by decide +kernel
theorem ze_L_law_386 : decode code 386 = .ok (.iadd, 1) := by decide +kernel
theorem ze_L_law_387 : decode code 387 = .ok (.iaload, 1) := by decide +kernel
theorem ze_L_law_388 : decode code 388 = .ok (.invokevirtual 62, 3) := by decide +kernel
theorem ze_L_law_391 : decode code 391 = .ok (.aload_n 2, 1) := by decide +kernel
theorem ze_L_law_392 : decode code 392 = .ok (.aload_n 0, 1) := by decide +kernel
theorem ze_L_law_393 : decode code 393 = .ok (.iload_n 3, 1) := by decide +kernel
theorem ze_L_law_394 : decode code 394 = .ok (.iconst 1, 1) := by decide +kernel
theorem ze_L_law_395 : decode code 395 = .ok (.iadd, 1) := by decide +kernel
theorem ze_L_law_396 : decode code 396 = .ok (.iaload, 1) := by decide +kernel
theorem ze_L_law_397 : decode code 397 = .ok (.invokevirtual 65, 3) := by decide +kernel
theorem ze_L_law_400 : decode code 400 = .ok (.if_icmp .eq 153, 3) := by decide +kernel
theorem ze_L_law_403 : decode code 403 = .ok (.iconst 0, 1) := by decide +kernel
theorem ze_L_law_404 : decode code 404 = .ok (.ireturn, 1) := by decide +kernel
theorem ze_L_law_405 : decode code 405 = .ok (.aload_n 1, 1) := by decide +kernel
theorem ze_L_law_406 : decode code 406 = .ok (.aload_n 0, 1) := by decide +kernel
theorem ze_L_law_407 : decode code 407 = .ok (.iload_n 3, 1) := by decide +kernel
theorem ze_L_law_408 : decode code 408 = .ok (.iconst 1, 1) := by decide +kernel
theorem ze_L_law_409 : decode code 409 = .ok (.iadd, 1) := by decide +kernel
theorem ze_L_law_410 : decode code 410 = .ok (.iaload, 1) := by decide +kernel
theorem ze_L_law_411 : decode code 411 = .ok (.invokevirtual 66, 3) := by decide +kernel
theorem ze_L_law_414 : decode code 414 = .ok (.aload_n 2, 1) := by decide +kernel
theorem ze_L_law_415 : decode code 415 = .ok (.aload_n 0, 1) := by decide +kernel
theorem ze_L_law_416 : decode code 416 = .ok (.iload_n 3, 1) := by decide +kernel
theorem ze_L_law_417 : decode code 417 = .ok (.iconst 1, 1) := by decide +kernel
theorem ze_L_law_418 : decode code 418 = .ok (.iadd, 1) := by decide +kernel
theorem ze_L_law_419 : decode code 419 = .ok (.iaload, 1) := by decide +kernel
theorem ze_L_law_420 : decode code 420 = .ok (.invokevirtual 69, 3) := by decide +kernel
theorem ze_L_law_423 : decode code 423 = .ok (.if_icmp .eq 130, 3) := by decide +kernel
theorem ze_L_law_426 : decode code 426 = .ok (.iconst 0, 1) := by decide +kernel
theorem ze_L_law_427 : decode code 427 = .ok (.ireturn, 1) := by decide +kernel
theorem ze_L_law_428 : decode code 428 = .ok (.aload_n 1, 1) := by decide +kernel
theorem ze_L_law_429 : decode code 429 = .ok (.aload_n 0, 1) := by decide +kernel
theorem ze_L_law_430 : decode code 430 = .ok (.iload_n 3, 1) := by decide +kernel
theorem ze_L_law_431 : decode code 431 = .ok (.iconst 1, 1) := by decide +kernel
theorem ze_L_law_432 : decode code 432 = .ok (.iadd, 1) := by decide +kernel
theorem ze_L_law_433 : decode code 433 = .ok (.iaload, 1) := by decide +kernel
theorem ze_L_law_434 : decode code 434 = .ok (.invokevirtual 70, 3) := by decide +kernel
theorem ze_L_law_437 : decode code 437 = .ok (.aload_n 2, 1) := by decide +kernel
theorem ze_L_law_438 : decode code 438 = .ok (.aload_n 0, 1) := by decide +kernel
theorem ze_L_law_439 : decode code 439 = .ok (.iload_n 3, 1) := by decide +kernel
theorem ze_L_law_440 : decode code 440 = .ok (.iconst 1, 1) := by decide +kernel
theorem ze_L_law_441 : decode code 441 = .ok (.iadd, 1) := by decide +kernel
theorem ze_L_law_442 : decode code 442 = .ok (.iaload, 1) := by decide +kernel
theorem ze_L_law_443 : decode code 443 = .ok (.invokevirtual 73, 3) := by decide +kernel
theorem ze_L_law_446 : decode code 446 = .ok (.if_icmp .eq 107, 3) := by decide +kernel
theorem ze_L_law_449 : decode code 449 = .ok (.iconst 0, 1) := by decide +kernel
theorem ze_L_law_450 : decode code 450 = .ok (.ireturn, 1) := by decide +kernel
theorem ze_L_law_451 : decode code 451 = .ok (.aload_n 1, 1) := by decide +kernel
theorem ze_L_law_452 : decode code 452 = .ok (.aload_n 0, 1) := by decide +kernel
theorem ze_L_law_453 : decode code 453 = .ok (.iload_n 3, 1) := by decide +kernel
theorem ze_L_law_454 : decode code 454 = .ok (.iconst 1, 1) := by decide +kernel
theorem ze_L_law_455 : decode code 455 = .ok (.iadd, 1) := by decide +kernel
theorem ze_L_law_456 : decode code 456 = .ok (.iaload, 1) := by decide +kernel
theorem ze_L_law_457 : decode code 457 = .ok (.invokevirtual 74, 3) := by decide +kernel
theorem ze_L_law_460 : decode code 460 = .ok (.aload_n 2, 1) := by decide +kernel
theorem ze_L_law_461 : decode code 461 = .ok (.aload_n 0, 1) := by decide +kernel
theorem ze_L_law_462 : decode code 462 = .ok (.iload_n 3, 1) := by decide +kernel
theorem ze_L_law_463 : decode code 463 = .ok (.iconst 1, 1) := by decide +kernel
theorem ze_L_law_464 : decode code 464 = .ok (.iadd, 1) := by decide +kernel
theorem ze_L_law_465 : decode code 465 = .ok (.iaload, 1) := by decide +kernel
theorem ze_L_law_466 : decode code 466 = .ok (.invokevirtual 77, 3) := by decide +kernel
theorem ze_L_law_469 : decode code 469 = .ok (.if_icmp .eq 84, 3) := by decide +kernel
theorem ze_L_law_472 : decode code 472 = .ok (.iconst 0, 1) := by decide +kernel
theorem ze_L_law_473 : decode code 473 = .ok (.ireturn, 1) := by decide +kernel
theorem ze_L_law_474 : decode code 474 = .ok (.aload_n 1, 1) := by decide +kernel
theorem ze_L_law_475 : decode code 475 = .ok (.aload_n 0, 1) := by decide +kernel
theorem ze_L_law_476 : decode code 476 = .ok (.iload_n 3, 1) := by decide +kernel
theorem ze_L_law_477 : decode code 477 = .ok (.iconst 1, 1) := by decide +kernel
theorem ze_L_law_478 : decode code 478 = .ok (.iadd, 1) := by decide +kernel
theorem ze_L_law_479 : decode code 479 = .ok (.iaload, 1) := by decide +kernel
theorem ze_L_law_480 : decode code 480 = .ok (.invokevirtual 78, 3) := by decide +kernel
theorem ze_L_law_483 : decode code 483 = .ok (.aload_n 2, 1) := by decide +kernel
theorem ze_L_law_484 : decode code 484 = .ok (.aload_n 0, 1) := by decide +kernel
theorem ze_L_law_485 : decode code 485 = .ok (.iload_n 3, 1) := by decide +kernel
theorem ze_L_law_486 : decode code 486 = .ok (.iconst 1, 1) := by decide +kernel
theorem ze_L_law_487 : decode code 487 = .ok (.iadd, 1) := by decide +kernel
theorem ze_L_law_488 : decode code 488 = .ok (.iaload, 1) := by decide +kernel
theorem ze_L_law_489 : decode code 489 = .ok (.invokevirtual 81, 3) := by decide +kernel
theorem ze_L_law_492 : decode code 492 = .ok (.if_icmp .eq 61, 3) := by decide +kernel
theorem ze_L_law_495 : decode code 495 = .ok (.iconst 0, 1) := by decide +kernel
theorem ze_L_law_496 : decode code 496 = .ok (.ireturn, 1) := by decide +kernel
theorem ze_L_law_497 : decode code 497 = .ok (.aload_n 1, 1) := by decide +kernel
theorem ze_L_law_498 : decode code 498 = .ok (.aload_n 0, 1) := by decide +kernel
theorem ze_L_law_499 : decode code 499 = .ok (.iload_n 3, 1) := by decide +kernel
theorem ze_L_law_500 : decode code 500 = .ok (.iconst 1, 1) := by decide +kernel
theorem ze_L_law_501 : decode code 501 = .ok (.iadd, 1) := by decide +kernel
theorem ze_L_law_502 : decode code 502 = .ok (.iaload, 1) := by decide +kernel
theorem ze_L_law_503 : decode code 503 = .ok (.invokevirtual 82, 3) := by decide +kernel
theorem ze_L_law_506 : decode code 506 = .ok (.aload_n 2, 1) := by decide +kernel
theorem ze_L_law_507 : decode code 507 = .ok (.aload_n 0, 1) := by decide +kernel
theorem ze_L_law_508 : decode code 508 = .ok (.iload_n 3, 1) := by decide +kernel
theorem ze_L_law_509 : decode code 509 = .ok (.iconst 1, 1) := by decide +kernel
theorem ze_L_law_510 : decode code 510 = .ok (.iadd, 1) := by decide +kernel
theorem ze_L_law_511 : decode code 511 = .ok (.iaload, 1) := by decide +kernel
theorem ze_L_law_512 : decode code 512 = .ok (.invokevirtual 85, 3) := by decide +kernel
theorem ze_L_law_515 : decode code 515 = .ok (.if_icmp .eq 38, 3) := by decide +kernel
theorem ze_L_law_518 : decode code 518 = .ok (.iconst 0, 1) := by decide +kernel
theorem ze_L_law_519 : decode code 519 = .ok (.ireturn, 1) := by decide +kernel
theorem ze_L_law_520 : decode code 520 = .ok (.aload_n 1, 1) := by decide +kernel
theorem ze_L_law_521 : decode code 521 = .ok (.aload_n 0, 1) := by decide +kernel
theorem ze_L_law_522 : decode code 522 = .ok (.iload_n 3, 1) := by decide +kernel
theorem ze_L_law_523 : decode code 523 = .ok (.iconst 1, 1) := by decide +kernel
theorem ze_L_law_524 : decode code 524 = .ok (.iadd, 1) := by decide +kernel
theorem ze_L_law_525 : decode code 525 = .ok (.iaload, 1) := by decide +kernel
theorem ze_L_law_526 : decode code 526 = .ok (.aload_n 0, 1) := by decide +kernel
theorem ze_L_law_527 : decode code 527 = .ok (.iload_n 3, 1) := by decide +kernel
theorem ze_L_law_528 : decode code 528 = .ok (.iconst 2, 1) := by decide +kernel
theorem ze_L_law_529 : decode code 529 = .ok (.iadd, 1) := by decide +kernel
theorem ze_L_law_530 : decode code 530 = .ok (.iaload, 1) := by decide +kernel
theorem ze_L_law_531 : decode code 531 = .ok (.invokevirtual 86, 3) := by decide +kernel
theorem ze_L_law_534 : decode code 534 = .ok (.aload_n 2, 1) := by decide +kernel
theorem ze_L_law_535 : decode code 535 = .ok (.aload_n 0, 1) := by decide +kernel
theorem ze_L_law_536 : decode code 536 = .ok (.iload_n 3, 1) := by decide +kernel
theorem ze_L_law_537 : decode code 537 = .ok (.iconst 1, 1) := by decide +kernel
theorem ze_L_law_538 : decode code 538 = .ok (.iadd, 1) := by decide +kernel
theorem ze_L_law_539 : decode code 539 = .ok (.iaload, 1) := by decide +kernel
theorem ze_L_law_540 : decode code 540 = .ok (.aload_n 0, 1) := by decide +kernel
theorem ze_L_law_541 : decode code 541 = .ok (.iload_n 3, 1) := by decide +kernel
theorem ze_L_law_542 : decode code 542 = .ok (.iconst 2, 1) := by decide +kernel
theorem ze_L_law_543 : decode code 543 = .ok (.iadd, 1) := by decide +kernel
theorem ze_L_law_544 : decode code 544 = .ok (.iaload, 1) := by decide +kernel
theorem ze_L_law_545 : decode code 545 = .ok (.invokevirtual 89, 3) := by decide +kernel
theorem ze_L_law_548 : decode code 548 = .ok (.if_icmp .eq 5, 3) := by decide +kernel
theorem ze_L_law_551 : decode code 551 = .ok (.iconst 0, 1) := by decide +kernel
theorem ze_L_law_552 : decode code 552 = .ok (.ireturn, 1) := by decide +kernel
theorem ze_L_law_553 : decode code 553 = .ok (.iinc 3 3, 3) := by decide +kernel
theorem ze_L_law_556 : decode code 556 = .ok (.goto (-538), 3) := by decide +kernel
theorem ze_L_law_559 : decode code 559 = .ok (.iconst 1, 1) := by decide +kernel
theorem ze_L_law_560 : decode code 560 = .ok (.ireturn, 1) := by decide +kernel
