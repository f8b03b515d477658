theorem dX11_added_0 : decode cX11_added 0 = .ok (.iload_n 1, 1) := by decide +kernel
theorem dX11_added_1 : decode cX11_added 1 = .ok (.ifCond .lt 21, 3) := by decide +kernel
theorem dX11_added_4 : decode cX11_added 4 = .ok (.iload_n 1, 1) := by decide +kernel
theorem dX11_added_5 : decode cX11_added 5 = .ok (.iconst 1, 1) := by decide +kernel
theorem dX11_added_6 : decode cX11_added 6 = .ok (.if_icmp .gt 16, 3) := by decide +kernel
theorem dX11_added_9 : decode cX11_added 9 = .ok (.aload_n 0, 1) := by decide +kernel
theorem dX11_added_10 : decode cX11_added 10 = .ok (.getfield 19, 3) := by decide +kernel
theorem dX11_added_13 : decode cX11_added 13 = .ok (.getfield 133, 3) := by decide +kernel
theorem dX11_added_16 : decode cX11_added 16 = .ok (.getfield 198, 3) := by decide +kernel
theorem dX11_added_19 : decode cX11_added 19 = .ok (.ifCond .ne 5, 3) := by decide +kernel
theorem dX11_added_22 : decode cX11_added 22 = .ok (.iconst (-1), 1) := by decide +kernel
theorem dX11_added_23 : decode cX11_added 23 = .ok (.ireturn, 1) := by decide +kernel
theorem dX11_added_24 : decode cX11_added 24 = .ok (.aload_n 0, 1) := by decide +kernel
theorem dX11_added_25 : decode cX11_added 25 = .ok (.getfield 83, 3) := by decide +kernel
theorem dX11_added_28 : decode cX11_added 28 = .ok (.aload_n 0, 1) := by decide +kernel
theorem dX11_added_29 : decode cX11_added 29 = .ok (.getfield 19, 3) := by decide +kernel
theorem dX11_added_32 : decode cX11_added 32 = .ok (.invokevirtual 276, 3) := by decide +kernel
theorem dX11_added_35 : decode cX11_added 35 = .ok (.istore_n 2, 1) := by decide +kernel
theorem dX11_added_36 : decode cX11_added 36 = .ok (.iload_n 1, 1) := by decide +kernel
theorem dX11_added_37 : decode cX11_added 37 = .ok (.ifCond .ne 10, 3) := by decide +kernel
theorem dX11_added_40 : decode cX11_added 40 = .ok (.iload_n 2, 1) := by decide +kernel
theorem dX11_added_41 : decode cX11_added 41 = .ok (.invokestatic 214, 3) := by decide +kernel
theorem dX11_added_44 : decode cX11_added 44 = .ok (.goto 4, 3) := by decide +kernel
theorem dX11_added_47 : decode cX11_added 47 = .ok (.iload_n 2, 1) := by decide +kernel
theorem dX11_added_48 : decode cX11_added 48 = .ok (.ireturn, 1) := by decide +kernel
theorem dX11_allCopiesCome_0 : decode cX11_allCopiesCome 0 = .ok (.aload_n 0, 1) := by decide +kernel
theorem dX11_allCopiesCome_1 : decode cX11_allCopiesCome 1 = .ok (.getfield 53, 3) := by decide +kernel
theorem dX11_allCopiesCome_4 : decode cX11_allCopiesCome 4 = .ok (.aload_n 0, 1) := by decide +kernel
theorem dX11_allCopiesCome_5 : decode cX11_allCopiesCome 5 = .ok (.getfield 57, 3) := by decide +kernel
theorem dX11_allCopiesCome_8 : decode cX11_allCopiesCome 8 = .ok (.invokestatic 203, 3) := by decide +kernel
theorem dX11_allCopiesCome_11 : decode cX11_allCopiesCome 11 = .ok (.aload_n 0, 1) := by decide +kernel
theorem dX11_allCopiesCome_12 : decode cX11_allCopiesCome 12 = .ok (.getfield 19, 3) := by decide +kernel
theorem dX11_allCopiesCome_15 : decode cX11_allCopiesCome 15 = .ok (.iload_n 1, 1) := by decide +kernel
theorem dX11_allCopiesCome_16 : decode cX11_allCopiesCome 16 = .ok (.iload_n 2, 1) := by decide +kernel
theorem dX11_allCopiesCome_17 : decode cX11_allCopiesCome 17 = .ok (.aload_n 0, 1) := by decide +kernel
theorem dX11_allCopiesCome_18 : decode cX11_allCopiesCome 18 = .ok (.getfield 57, 3) := by decide +kernel
theorem dX11_allCopiesCome_21 : decode cX11_allCopiesCome 21 = .ok (.invokevirtual 207, 3) := by decide +kernel
theorem dX11_allCopiesCome_24 : decode cX11_allCopiesCome 24 = .ok (.aload_n 0, 1) := by decide +kernel
theorem dX11_allCopiesCome_25 : decode cX11_allCopiesCome 25 = .ok (.getfield 97, 3) := by decide +kernel
theorem dX11_allCopiesCome_28 : decode cX11_allCopiesCome 28 = .ok (.aload_n 0, 1) := by decide +kernel
theorem dX11_allCopiesCome_29 : decode cX11_allCopiesCome 29 = .ok (.getfield 57, 3) := by decide +kernel
theorem dX11_allCopiesCome_32 : decode cX11_allCopiesCome 32 = .ok (.invokevirtual 377, 3) := by decide +kernel
theorem dX11_allCopiesCome_35 : decode cX11_allCopiesCome 35 = .ok (.ireturn, 1) := by decide +kernel
theorem dX11_amountAt_0 : decode cX11_amountAt 0 = .ok (.aload_n 0, 1) := by decide +kernel
theorem dX11_amountAt_1 : decode cX11_amountAt 1 = .ok (.getfield 49, 3) := by decide +kernel
theorem dX11_amountAt_4 : decode cX11_amountAt 4 = .ok (.aload_n 0, 1) := by decide +kernel
theorem dX11_amountAt_5 : decode cX11_amountAt 5 = .ok (.getfield 19, 3) := by decide +kernel
theorem dX11_amountAt_8 : decode cX11_amountAt 8 = .ok (.iload_n 2, 1) := by decide +kernel
theorem dX11_amountAt_9 : decode cX11_amountAt 9 = .ok (.aload_n 0, 1) := by decide +kernel
theorem dX11_amountAt_10 : decode cX11_amountAt 10 = .ok (.getfield 19, 3) := by decide +kernel
theorem dX11_amountAt_13 : decode cX11_amountAt 13 = .ok (.iload_n 2, 1) := by decide +kernel
theorem dX11_amountAt_14 : decode cX11_amountAt 14 = .ok (.invokevirtual 158, 3) := by decide +kernel
theorem dX11_amountAt_17 : decode cX11_amountAt 17 = .ok (.iload_n 3, 1) := by decide +kernel
theorem dX11_amountAt_18 : decode cX11_amountAt 18 = .ok (.invokevirtual 348, 3) := by decide +kernel
theorem dX11_amountAt_21 : decode cX11_amountAt 21 = .ok (.aload_n 0, 1) := by decide +kernel
theorem dX11_amountAt_22 : decode cX11_amountAt 22 = .ok (.getfield 49, 3) := by decide +kernel
theorem dX11_amountAt_25 : decode cX11_amountAt 25 = .ok (.iload_n 1, 1) := by decide +kernel
theorem dX11_amountAt_26 : decode cX11_amountAt 26 = .ok (.iload_n 1, 1) := by decide +kernel
theorem dX11_amountAt_27 : decode cX11_amountAt 27 = .ok (.bipush 116, 2) := by decide +kernel
theorem dX11_amountAt_29 : decode cX11_amountAt 29 = .ok (.if_icmp .ne 8, 3) := by decide +kernel
theorem dX11_amountAt_32 : decode cX11_amountAt 32 = .ok (.bipush 99, 2) := by decide +kernel
theorem dX11_amountAt_34 : decode cX11_amountAt 34 = .ok (.goto 16, 3) := by decide +kernel
theorem dX11_amountAt_37 : decode cX11_amountAt 37 = .ok (.iload_n 1, 1) := by decide +kernel
theorem dX11_amountAt_38 : decode cX11_amountAt 38 = .ok (.bipush 119, 2) := by decide +kernel
theorem dX11_amountAt_40 : decode cX11_amountAt 40 = .ok (.if_icmp .ne 8, 3) := by decide +kernel
theorem dX11_amountAt_43 : decode cX11_amountAt 43 = .ok (.bipush 99, 2) := by decide +kernel
theorem dX11_amountAt_45 : decode cX11_amountAt 45 = .ok (.goto 5, 3) := by decide +kernel
theorem dX11_amountAt_48 : decode cX11_amountAt 48 = .ok (.bipush 10, 2) := by decide +kernel
theorem dX11_amountAt_50 : decode cX11_amountAt 50 = .ok (.invokevirtual 355, 3) := by decide +kernel
theorem dX11_amountAt_53 : decode cX11_amountAt 53 = .ok (.ireturn, 1) := by decide +kernel
theorem dX11_anew_0 : decode cX11_anew 0 = .ok (.aload_n 0, 1) := by decide +kernel
theorem dX11_anew_1 : decode cX11_anew 1 = .ok (.getfield 19, 3) := by decide +kernel
theorem dX11_anew_4 : decode cX11_anew 4 = .ok (.getfield 133, 3) := by decide +kernel
theorem dX11_anew_7 : decode cX11_anew 7 = .ok (.iload_n 1, 1) := by decide +kernel
theorem dX11_anew_8 : decode cX11_anew 8 = .ok (.invokevirtual 155, 3) := by decide +kernel
theorem dX11_anew_11 : decode cX11_anew 11 = .ok (.ifCond .eq 37, 3) := by decide +kernel
theorem dX11_anew_14 : decode cX11_anew 14 = .ok (.iload_n 2, 1) := by decide +kernel
theorem dX11_anew_15 : decode cX11_anew 15 = .ok (.aload_n 0, 1) := by decide +kernel
theorem dX11_anew_16 : decode cX11_anew 16 = .ok (.getfield 19, 3) := by decide +kernel
theorem dX11_anew_19 : decode cX11_anew 19 = .ok (.getfield 133, 3) := by decide +kernel
theorem dX11_anew_22 : decode cX11_anew 22 = .ok (.invokevirtual 249, 3) := by decide +kernel
theorem dX11_anew_25 : decode cX11_anew 25 = .ok (.iconst (-1), 1) := by decide +kernel
theorem dX11_anew_26 : decode cX11_anew 26 = .ok (.ixor, 1) := by decide +kernel
theorem dX11_anew_27 : decode cX11_anew 27 = .ok (.iand, 1) := by decide +kernel
theorem dX11_anew_28 : decode cX11_anew 28 = .ok (.ifCond .ne 20, 3) := by decide +kernel
theorem dX11_anew_31 : decode cX11_anew 31 = .ok (.iload_n 2, 1) := by decide +kernel
theorem dX11_anew_32 : decode cX11_anew 32 = .ok (.iload_n 1, 1) := by decide +kernel
theorem dX11_anew_33 : decode cX11_anew 33 = .ok (.invokestatic 252, 3) := by decide +kernel
theorem dX11_anew_36 : decode cX11_anew 36 = .ok (.ifCond .ne 12, 3) := by decide +kernel
theorem dX11_anew_39 : decode cX11_anew 39 = .ok (.iload_n 3, 1) := by decide +kernel
theorem dX11_anew_40 : decode cX11_anew 40 = .ok (.ifCond .lt 8, 3) := by decide +kernel
theorem dX11_anew_43 : decode cX11_anew 43 = .ok (.iload_n 3, 1) := by decide +kernel
theorem dX11_anew_44 : decode cX11_anew 44 = .ok (.iconst 1, 1) := by decide +kernel
theorem dX11_anew_45 : decode cX11_anew 45 = .ok (.if_icmp .le 5, 3) := by decide +kernel
theorem dX11_anew_48 : decode cX11_anew 48 = .ok (.iconst (-1), 1) := by decide +kernel
theorem dX11_anew_49 : decode cX11_anew 49 = .ok (.ireturn, 1) := by decide +kernel
theorem dX11_anew_50 : decode cX11_anew 50 = .ok (.iconst 0, 1) := by decide +kernel
theorem dX11_anew_51 : decode cX11_anew 51 = .ok (.istore 4, 2) := by decide +kernel
theorem dX11_anew_53 : decode cX11_anew 53 = .ok (.iload 4, 2) := by decide +kernel
theorem dX11_anew_55 : decode cX11_anew 55 = .ok (.aload_n 0, 1) := by decide +kernel
theorem dX11_anew_56 : decode cX11_anew 56 = .ok (.getfield 19, 3) := by decide +kernel
theorem dX11_anew_59 : decode cX11_anew 59 = .ok (.getfield 133, 3) := by decide +kernel
theorem dX11_anew_62 : decode cX11_anew 62 = .ok (.getfield 198, 3) := by decide +kernel
theorem dX11_anew_65 : decode cX11_anew 65 = .ok (.if_icmp .ge 37, 3) := by decide +kernel
theorem dX11_anew_68 : decode cX11_anew 68 = .ok (.iload_n 2, 1) := by decide +kernel
theorem dX11_anew_69 : decode cX11_anew 69 = .ok (.iload 4, 2) := by decide +kernel
theorem dX11_anew_71 : decode cX11_anew 71 = .ok (.invokestatic 252, 3) := by decide +kernel
theorem dX11_anew_74 : decode cX11_anew 74 = .ok (.ifCond .eq 22, 3) := by decide +kernel
theorem dX11_anew_77 : decode cX11_anew 77 = .ok (.aload_n 0, 1) := by decide +kernel
theorem dX11_anew_78 : decode cX11_anew 78 = .ok (.getfield 19, 3) := by decide +kernel
theorem dX11_anew_81 : decode cX11_anew 81 = .ok (.getfield 133, 3) := by decide +kernel
theorem dX11_anew_84 : decode cX11_anew 84 = .ok (.iload 4, 2) := by decide +kernel
theorem dX11_anew_86 : decode cX11_anew 86 = .ok (.iload_n 1, 1) := by decide +kernel
theorem dX11_anew_87 : decode cX11_anew 87 = .ok (.invokevirtual 269, 3) := by decide +kernel
theorem dX11_anew_90 : decode cX11_anew 90 = .ok (.ifCond .eq 6, 3) := by decide +kernel
theorem dX11_anew_93 : decode cX11_anew 93 = .ok (.bipush (-2), 2) := by decide +kernel
theorem dX11_anew_95 : decode cX11_anew 95 = .ok (.ireturn, 1) := by decide +kernel
theorem dX11_anew_96 : decode cX11_anew 96 = .ok (.iinc 4 1, 3) := by decide +kernel
theorem dX11_anew_99 : decode cX11_anew 99 = .ok (.goto (-46), 3) := by decide +kernel
theorem dX11_anew_102 : decode cX11_anew 102 = .ok (.aload_n 0, 1) := by decide +kernel
theorem dX11_anew_103 : decode cX11_anew 103 = .ok (.getfield 76, 3) := by decide +kernel
theorem dX11_anew_106 : decode cX11_anew 106 = .ok (.aload_n 0, 1) := by decide +kernel
theorem dX11_anew_107 : decode cX11_anew 107 = .ok (.getfield 19, 3) := by decide +kernel
theorem dX11_anew_110 : decode cX11_anew 110 = .ok (.getfield 133, 3) := by decide +kernel
theorem dX11_anew_113 : decode cX11_anew 113 = .ok (.iload_n 1, 1) := by decide +kernel
theorem dX11_anew_114 : decode cX11_anew 114 = .ok (.iload_n 2, 1) := by decide +kernel
theorem dX11_anew_115 : decode cX11_anew 115 = .ok (.invokevirtual 272, 3) := by decide +kernel
theorem dX11_anew_118 : decode cX11_anew 118 = .ok (.istore 4, 2) := by decide +kernel
theorem dX11_anew_120 : decode cX11_anew 120 = .ok (.iload_n 3, 1) := by decide +kernel
theorem dX11_anew_121 : decode cX11_anew 121 = .ok (.ifCond .ne 11, 3) := by decide +kernel
theorem dX11_anew_124 : decode cX11_anew 124 = .ok (.iload 4, 2) := by decide +kernel
theorem dX11_anew_126 : decode cX11_anew 126 = .ok (.invokestatic 214, 3) := by decide +kernel
theorem dX11_anew_129 : decode cX11_anew 129 = .ok (.goto 5, 3) := by decide +kernel
theorem dX11_anew_132 : decode cX11_anew 132 = .ok (.iload 4, 2) := by decide +kernel
theorem dX11_anew_134 : decode cX11_anew 134 = .ok (.ireturn, 1) := by decide +kernel
theorem dX11_areHearers_0 : decode cX11_areHearers 0 = .ok (.iload_n 0, 1) := by decide +kernel
theorem dX11_areHearers_1 : decode cX11_areHearers 1 = .ok (.ifCond .lt 14, 3) := by decide +kernel
theorem dX11_areHearers_4 : decode cX11_areHearers 4 = .ok (.iload_n 0, 1) := by decide +kernel
theorem dX11_areHearers_5 : decode cX11_areHearers 5 = .ok (.sipush 1023, 3) := by decide +kernel
theorem dX11_areHearers_8 : decode cX11_areHearers 8 = .ok (.if_icmp .gt 7, 3) := by decide +kernel
theorem dX11_areHearers_11 : decode cX11_areHearers 11 = .ok (.iconst 1, 1) := by decide +kernel
theorem dX11_areHearers_12 : decode cX11_areHearers 12 = .ok (.goto 4, 3) := by decide +kernel
theorem dX11_areHearers_15 : decode cX11_areHearers 15 = .ok (.iconst 0, 1) := by decide +kernel
theorem dX11_areHearers_16 : decode cX11_areHearers 16 = .ok (.ireturn, 1) := by decide +kernel
theorem dX11_at_0 : decode cX11_at 0 = .ok (.iload_n 1, 1) := by decide +kernel
theorem dX11_at_1 : decode cX11_at 1 = .ok (.ifCond .lt 15, 3) := by decide +kernel
theorem dX11_at_4 : decode cX11_at 4 = .ok (.iload_n 1, 1) := by decide +kernel
theorem dX11_at_5 : decode cX11_at 5 = .ok (.aload_n 0, 1) := by decide +kernel
theorem dX11_at_6 : decode cX11_at 6 = .ok (.arraylength, 1) := by decide +kernel
theorem dX11_at_7 : decode cX11_at 7 = .ok (.if_icmp .ge 9, 3) := by decide +kernel
theorem dX11_at_10 : decode cX11_at 10 = .ok (.aload_n 0, 1) := by decide +kernel
theorem dX11_at_11 : decode cX11_at 11 = .ok (.iload_n 1, 1) := by decide +kernel
theorem dX11_at_12 : decode cX11_at 12 = .ok (.iaload, 1) := by decide +kernel
theorem dX11_at_13 : decode cX11_at 13 = .ok (.goto 4, 3) := by decide +kernel
theorem dX11_at_16 : decode cX11_at 16 = .ok (.iconst 0, 1) := by decide +kernel
theorem dX11_at_17 : decode cX11_at 17 = .ok (.ireturn, 1) := by decide +kernel
theorem dX11_author_0 : decode cX11_author 0 = .ok (.aload_n 0, 1) := by decide +kernel
theorem dX11_author_1 : decode cX11_author 1 = .ok (.getfield 19, 3) := by decide +kernel
theorem dX11_author_4 : decode cX11_author 4 = .ok (.getfield 133, 3) := by decide +kernel
theorem dX11_author_7 : decode cX11_author 7 = .ok (.getfield 198, 3) := by decide +kernel
theorem dX11_author_10 : decode cX11_author 10 = .ok (.istore_n 3, 1) := by decide +kernel
theorem dX11_author_11 : decode cX11_author 11 = .ok (.iload_n 1, 1) := by decide +kernel
theorem dX11_author_12 : decode cX11_author 12 = .ok (.iconst 1, 1) := by decide +kernel
theorem dX11_author_13 : decode cX11_author 13 = .ok (.if_icmp .lt 34, 3) := by decide +kernel
theorem dX11_author_16 : decode cX11_author 16 = .ok (.iload_n 1, 1) := by decide +kernel
theorem dX11_author_17 : decode cX11_author 17 = .ok (.iconst 5, 1) := by decide +kernel
theorem dX11_author_18 : decode cX11_author 18 = .ok (.if_icmp .gt 29, 3) := by decide +kernel
theorem dX11_author_21 : decode cX11_author 21 = .ok (.iload_n 2, 1) := by decide +kernel
theorem dX11_author_22 : decode cX11_author 22 = .ok (.ifCond .lt 25, 3) := by decide +kernel
theorem dX11_author_25 : decode cX11_author 25 = .ok (.iload_n 2, 1) := by decide +kernel
theorem dX11_author_26 : decode cX11_author 26 = .ok (.iconst 2, 1) := by decide +kernel
theorem dX11_author_27 : decode cX11_author 27 = .ok (.if_icmp .gt 20, 3) := by decide +kernel
theorem dX11_author_30 : decode cX11_author 30 = .ok (.iload_n 3, 1) := by decide +kernel
theorem dX11_author_31 : decode cX11_author 31 = .ok (.ifCond .eq 16, 3) := by decide +kernel
theorem dX11_author_34 : decode cX11_author 34 = .ok (.iload_n 1, 1) := by decide +kernel
theorem dX11_author_35 : decode cX11_author 35 = .ok (.iload_n 3, 1) := by decide +kernel
theorem dX11_author_36 : decode cX11_author 36 = .ok (.imul, 1) := by decide +kernel
theorem dX11_author_37 : decode cX11_author 37 = .ok (.aload_n 0, 1) := by decide +kernel
theorem dX11_author_38 : decode cX11_author 38 = .ok (.getfield 10, 3) := by decide +kernel
theorem dX11_author_41 : decode cX11_author 41 = .ok (.getfield 116, 3) := by decide +kernel
theorem dX11_author_44 : decode cX11_author 44 = .ok (.if_icmp .le 5, 3) := by decide +kernel
theorem dX11_author_47 : decode cX11_author 47 = .ok (.iconst (-1), 1) := by decide +kernel
theorem dX11_author_48 : decode cX11_author 48 = .ok (.ireturn, 1) := by decide +kernel
theorem dX11_author_49 : decode cX11_author 49 = .ok (.aload_n 0, 1) := by decide +kernel
theorem dX11_author_50 : decode cX11_author 50 = .ok (.getfield 97, 3) := by decide +kernel
theorem dX11_author_53 : decode cX11_author 53 = .ok (.aload_n 0, 1) := by decide +kernel
theorem dX11_author_54 : decode cX11_author 54 = .ok (.getfield 10, 3) := by decide +kernel
theorem dX11_author_57 : decode cX11_author 57 = .ok (.getfield 313, 3) := by decide +kernel
theorem dX11_author_60 : decode cX11_author 60 = .ok (.iload_n 1, 1) := by decide +kernel
theorem dX11_author_61 : decode cX11_author 61 = .ok (.aload_n 0, 1) := by decide +kernel
theorem dX11_author_62 : decode cX11_author 62 = .ok (.getfield 19, 3) := by decide +kernel
theorem dX11_author_65 : decode cX11_author 65 = .ok (.invokevirtual 316, 3) := by decide +kernel
theorem dX11_author_68 : decode cX11_author 68 = .ok (.aload_n 0, 1) := by decide +kernel
theorem dX11_author_69 : decode cX11_author 69 = .ok (.getfield 10, 3) := by decide +kernel
theorem dX11_author_72 : decode cX11_author 72 = .ok (.invokevirtual 130, 3) := by decide +kernel
theorem dX11_author_75 : decode cX11_author 75 = .ok (.aload_n 0, 1) := by decide +kernel
theorem dX11_author_76 : decode cX11_author 76 = .ok (.getfield 19, 3) := by decide +kernel
theorem dX11_author_79 : decode cX11_author 79 = .ok (.iconst 0, 1) := by decide +kernel
theorem dX11_author_80 : decode cX11_author 80 = .ok (.aload_n 0, 1) := by decide +kernel
theorem dX11_author_81 : decode cX11_author 81 = .ok (.getfield 53, 3) := by decide +kernel
theorem dX11_author_84 : decode cX11_author 84 = .ok (.invokevirtual 174, 3) := by decide +kernel
theorem dX11_author_87 : decode cX11_author 87 = .ok (.aload_n 0, 1) := by decide +kernel
theorem dX11_author_88 : decode cX11_author 88 = .ok (.invokevirtual 219, 3) := by decide +kernel
theorem dX11_author_91 : decode cX11_author 91 = .ok (.iconst 0, 1) := by decide +kernel
theorem dX11_author_92 : decode cX11_author 92 = .ok (.istore 4, 2) := by decide +kernel
theorem dX11_author_94 : decode cX11_author 94 = .ok (.iload 4, 2) := by decide +kernel
theorem dX11_author_96 : decode cX11_author 96 = .ok (.iload_n 3, 1) := by decide +kernel
theorem dX11_author_97 : decode cX11_author 97 = .ok (.if_icmp .ge 65, 3) := by decide +kernel
theorem dX11_author_100 : decode cX11_author 100 = .ok (.iconst 0, 1) := by decide +kernel
theorem dX11_author_101 : decode cX11_author 101 = .ok (.istore 5, 2) := by decide +kernel
theorem dX11_author_103 : decode cX11_author 103 = .ok (.iload 5, 2) := by decide +kernel
theorem dX11_author_105 : decode cX11_author 105 = .ok (.aload_n 0, 1) := by decide +kernel
theorem dX11_author_106 : decode cX11_author 106 = .ok (.getfield 19, 3) := by decide +kernel
theorem dX11_author_109 : decode cX11_author 109 = .ok (.getfield 123, 3) := by decide +kernel
theorem dX11_author_112 : decode cX11_author 112 = .ok (.if_icmp .ge 44, 3) := by decide +kernel
theorem dX11_author_115 : decode cX11_author 115 = .ok (.iload 5, 2) := by decide +kernel
theorem dX11_author_117 : decode cX11_author 117 = .ok (.aload_n 0, 1) := by decide +kernel
theorem dX11_author_118 : decode cX11_author 118 = .ok (.getfield 53, 3) := by decide +kernel
theorem dX11_author_121 : decode cX11_author 121 = .ok (.iload 4, 2) := by decide +kernel
theorem dX11_author_123 : decode cX11_author 123 = .ok (.invokestatic 164, 3) := by decide +kernel
theorem dX11_author_126 : decode cX11_author 126 = .ok (.if_icmp .eq 24, 3) := by decide +kernel
theorem dX11_author_129 : decode cX11_author 129 = .ok (.aload_n 0, 1) := by decide +kernel
theorem dX11_author_130 : decode cX11_author 130 = .ok (.iload 4, 2) := by decide +kernel
theorem dX11_author_132 : decode cX11_author 132 = .ok (.iload 5, 2) := by decide +kernel
theorem dX11_author_134 : decode cX11_author 134 = .ok (.invokevirtual 320, 3) := by decide +kernel
theorem dX11_author_137 : decode cX11_author 137 = .ok (.ifCond .eq 13, 3) := by decide +kernel
theorem dX11_author_140 : decode cX11_author 140 = .ok (.aload_n 0, 1) := by decide +kernel
theorem dX11_author_141 : decode cX11_author 141 = .ok (.iload 4, 2) := by decide +kernel
theorem dX11_author_143 : decode cX11_author 143 = .ok (.iload 5, 2) := by decide +kernel
theorem dX11_author_145 : decode cX11_author 145 = .ok (.bipush (-2), 2) := by decide +kernel
theorem dX11_author_147 : decode cX11_author 147 = .ok (.invokevirtual 225, 3) := by decide +kernel
theorem dX11_author_150 : decode cX11_author 150 = .ok (.iinc 5 1, 3) := by decide +kernel
theorem dX11_author_153 : decode cX11_author 153 = .ok (.goto (-50), 3) := by decide +kernel
theorem dX11_author_156 : decode cX11_author 156 = .ok (.iinc 4 1, 3) := by decide +kernel
theorem dX11_author_159 : decode cX11_author 159 = .ok (.goto (-65), 3) := by decide +kernel
theorem dX11_author_162 : decode cX11_author 162 = .ok (.aload_n 0, 1) := by decide +kernel
theorem dX11_author_163 : decode cX11_author 163 = .ok (.getfield 63, 3) := by decide +kernel
theorem dX11_author_166 : decode cX11_author 166 = .ok (.iload_n 2, 1) := by decide +kernel
theorem dX11_author_167 : decode cX11_author 167 = .ok (.invokestatic 164, 3) := by decide +kernel
theorem dX11_author_170 : decode cX11_author 170 = .ok (.ireturn, 1) := by decide +kernel
theorem dX11_axiom_0 : decode cX11_axiom 0 = .ok (.iload_n 1, 1) := by decide +kernel
theorem dX11_axiom_1 : decode cX11_axiom 1 = .ok (.ifCond .lt 20, 3) := by decide +kernel
theorem dX11_axiom_4 : decode cX11_axiom 4 = .ok (.iload_n 1, 1) := by decide +kernel
theorem dX11_axiom_5 : decode cX11_axiom 5 = .ok (.bipush 10, 2) := by decide +kernel
theorem dX11_axiom_7 : decode cX11_axiom 7 = .ok (.if_icmp .ge 14, 3) := by decide +kernel
theorem dX11_axiom_10 : decode cX11_axiom 10 = .ok (.aload_n 0, 1) := by decide +kernel
theorem dX11_axiom_11 : decode cX11_axiom 11 = .ok (.getfield 19, 3) := by decide +kernel
theorem dX11_axiom_14 : decode cX11_axiom 14 = .ok (.iload_n 2, 1) := by decide +kernel
theorem dX11_axiom_15 : decode cX11_axiom 15 = .ok (.invokevirtual 105, 3) := by decide +kernel
theorem dX11_axiom_18 : decode cX11_axiom 18 = .ok (.ifCond .ne 5, 3) := by decide +kernel
theorem dX11_axiom_21 : decode cX11_axiom 21 = .ok (.iconst 0, 1) := by decide +kernel
theorem dX11_axiom_22 : decode cX11_axiom 22 = .ok (.ireturn, 1) := by decide +kernel
theorem dX11_axiom_23 : decode cX11_axiom 23 = .ok (.aload_n 0, 1) := by decide +kernel
theorem dX11_axiom_24 : decode cX11_axiom 24 = .ok (.getfield 19, 3) := by decide +kernel
theorem dX11_axiom_27 : decode cX11_axiom 27 = .ok (.getfield 109, 3) := by decide +kernel
theorem dX11_axiom_30 : decode cX11_axiom 30 = .ok (.iload_n 1, 1) := by decide +kernel
theorem dX11_axiom_31 : decode cX11_axiom 31 = .ok (.iload_n 2, 1) := by decide +kernel
theorem dX11_axiom_32 : decode cX11_axiom 32 = .ok (.invokestatic 112, 3) := by decide +kernel
theorem dX11_axiom_35 : decode cX11_axiom 35 = .ok (.iconst 1, 1) := by decide +kernel
theorem dX11_axiom_36 : decode cX11_axiom 36 = .ok (.ireturn, 1) := by decide +kernel
theorem dX11_bit_0 : decode cX11_bit 0 = .ok (.iconst 1, 1) := by decide +kernel
theorem dX11_bit_1 : decode cX11_bit 1 = .ok (.iload_n 0, 1) := by decide +kernel
theorem dX11_bit_2 : decode cX11_bit 2 = .ok (.ishl, 1) := by decide +kernel
theorem dX11_bit_3 : decode cX11_bit 3 = .ok (.ireturn, 1) := by decide +kernel
theorem dX11_blind_0 : decode cX11_blind 0 = .ok (.aload_n 0, 1) := by decide +kernel
theorem dX11_blind_1 : decode cX11_blind 1 = .ok (.getfield 19, 3) := by decide +kernel
theorem dX11_blind_4 : decode cX11_blind 4 = .ok (.getfield 133, 3) := by decide +kernel
theorem dX11_blind_7 : decode cX11_blind 7 = .ok (.iload_n 1, 1) := by decide +kernel
theorem dX11_blind_8 : decode cX11_blind 8 = .ok (.invokevirtual 155, 3) := by decide +kernel
theorem dX11_blind_11 : decode cX11_blind 11 = .ok (.ifCond .ne 5, 3) := by decide +kernel
theorem dX11_blind_14 : decode cX11_blind 14 = .ok (.iconst (-1), 1) := by decide +kernel
theorem dX11_blind_15 : decode cX11_blind 15 = .ok (.ireturn, 1) := by decide +kernel
theorem dX11_blind_16 : decode cX11_blind 16 = .ok (.aload_n 0, 1) := by decide +kernel
theorem dX11_blind_17 : decode cX11_blind 17 = .ok (.getfield 19, 3) := by decide +kernel
theorem dX11_blind_20 : decode cX11_blind 20 = .ok (.iconst 0, 1) := by decide +kernel
theorem dX11_blind_21 : decode cX11_blind 21 = .ok (.aload_n 0, 1) := by decide +kernel
theorem dX11_blind_22 : decode cX11_blind 22 = .ok (.getfield 53, 3) := by decide +kernel
theorem dX11_blind_25 : decode cX11_blind 25 = .ok (.invokevirtual 174, 3) := by decide +kernel
theorem dX11_blind_28 : decode cX11_blind 28 = .ok (.aload_n 0, 1) := by decide +kernel
theorem dX11_blind_29 : decode cX11_blind 29 = .ok (.getfield 19, 3) := by decide +kernel
theorem dX11_blind_32 : decode cX11_blind 32 = .ok (.getfield 133, 3) := by decide +kernel
theorem dX11_blind_35 : decode cX11_blind 35 = .ok (.invokevirtual 211, 3) := by decide +kernel
theorem dX11_blind_38 : decode cX11_blind 38 = .ok (.istore_n 2, 1) := by decide +kernel
theorem dX11_blind_39 : decode cX11_blind 39 = .ok (.iconst 0, 1) := by decide +kernel
theorem dX11_blind_40 : decode cX11_blind 40 = .ok (.istore_n 3, 1) := by decide +kernel
theorem dX11_blind_41 : decode cX11_blind 41 = .ok (.iconst 0, 1) := by decide +kernel
theorem dX11_blind_42 : decode cX11_blind 42 = .ok (.istore 4, 2) := by decide +kernel
theorem dX11_blind_44 : decode cX11_blind 44 = .ok (.iload 4, 2) := by decide +kernel
theorem dX11_blind_46 : decode cX11_blind 46 = .ok (.aload_n 0, 1) := by decide +kernel
theorem dX11_blind_47 : decode cX11_blind 47 = .ok (.getfield 19, 3) := by decide +kernel
theorem dX11_blind_50 : decode cX11_blind 50 = .ok (.getfield 123, 3) := by decide +kernel
theorem dX11_blind_53 : decode cX11_blind 53 = .ok (.if_icmp .ge 74, 3) := by decide +kernel
theorem dX11_blind_56 : decode cX11_blind 56 = .ok (.iload 4, 2) := by decide +kernel
theorem dX11_blind_58 : decode cX11_blind 58 = .ok (.aload_n 0, 1) := by decide +kernel
theorem dX11_blind_59 : decode cX11_blind 59 = .ok (.getfield 53, 3) := by decide +kernel
theorem dX11_blind_62 : decode cX11_blind 62 = .ok (.iload_n 1, 1) := by decide +kernel
theorem dX11_blind_63 : decode cX11_blind 63 = .ok (.invokestatic 164, 3) := by decide +kernel
theorem dX11_blind_66 : decode cX11_blind 66 = .ok (.if_icmp .eq 55, 3) := by decide +kernel
theorem dX11_blind_69 : decode cX11_blind 69 = .ok (.aload_n 0, 1) := by decide +kernel
theorem dX11_blind_70 : decode cX11_blind 70 = .ok (.getfield 53, 3) := by decide +kernel
theorem dX11_blind_73 : decode cX11_blind 73 = .ok (.aload_n 0, 1) := by decide +kernel
theorem dX11_blind_74 : decode cX11_blind 74 = .ok (.getfield 57, 3) := by decide +kernel
theorem dX11_blind_77 : decode cX11_blind 77 = .ok (.invokestatic 203, 3) := by decide +kernel
theorem dX11_blind_80 : decode cX11_blind 80 = .ok (.aload_n 0, 1) := by decide +kernel
theorem dX11_blind_81 : decode cX11_blind 81 = .ok (.getfield 19, 3) := by decide +kernel
theorem dX11_blind_84 : decode cX11_blind 84 = .ok (.iload_n 1, 1) := by decide +kernel
theorem dX11_blind_85 : decode cX11_blind 85 = .ok (.iload 4, 2) := by decide +kernel
theorem dX11_blind_87 : decode cX11_blind 87 = .ok (.aload_n 0, 1) := by decide +kernel
theorem dX11_blind_88 : decode cX11_blind 88 = .ok (.getfield 57, 3) := by decide +kernel
theorem dX11_blind_91 : decode cX11_blind 91 = .ok (.invokevirtual 207, 3) := by decide +kernel
theorem dX11_blind_94 : decode cX11_blind 94 = .ok (.iload_n 3, 1) := by decide +kernel
theorem dX11_blind_95 : decode cX11_blind 95 = .ok (.aload_n 0, 1) := by decide +kernel
theorem dX11_blind_96 : decode cX11_blind 96 = .ok (.getfield 57, 3) := by decide +kernel
theorem dX11_blind_99 : decode cX11_blind 99 = .ok (.iload_n 2, 1) := by decide +kernel
theorem dX11_blind_100 : decode cX11_blind 100 = .ok (.invokestatic 164, 3) := by decide +kernel
theorem dX11_blind_103 : decode cX11_blind 103 = .ok (.aload_n 0, 1) := by decide +kernel
theorem dX11_blind_104 : decode cX11_blind 104 = .ok (.getfield 53, 3) := by decide +kernel
theorem dX11_blind_107 : decode cX11_blind 107 = .ok (.iload_n 2, 1) := by decide +kernel
theorem dX11_blind_108 : decode cX11_blind 108 = .ok (.invokestatic 164, 3) := by decide +kernel
theorem dX11_blind_111 : decode cX11_blind 111 = .ok (.if_icmp .ne 7, 3) := by decide +kernel
theorem dX11_blind_114 : decode cX11_blind 114 = .ok (.iconst 1, 1) := by decide +kernel
theorem dX11_blind_115 : decode cX11_blind 115 = .ok (.goto 4, 3) := by decide +kernel
theorem dX11_blind_118 : decode cX11_blind 118 = .ok (.iconst 0, 1) := by decide +kernel
theorem dX11_blind_119 : decode cX11_blind 119 = .ok (.iadd, 1) := by decide +kernel
theorem dX11_blind_120 : decode cX11_blind 120 = .ok (.istore_n 3, 1) := by decide +kernel
theorem dX11_blind_121 : decode cX11_blind 121 = .ok (.iinc 4 1, 3) := by decide +kernel
theorem dX11_blind_124 : decode cX11_blind 124 = .ok (.goto (-80), 3) := by decide +kernel
theorem dX11_blind_127 : decode cX11_blind 127 = .ok (.iload_n 3, 1) := by decide +kernel
theorem dX11_blind_128 : decode cX11_blind 128 = .ok (.ireturn, 1) := by decide +kernel
theorem dX11_cancel_0 : decode cX11_cancel 0 = .ok (.aload_n 0, 1) := by decide +kernel
theorem dX11_cancel_1 : decode cX11_cancel 1 = .ok (.getfield 19, 3) := by decide +kernel
theorem dX11_cancel_4 : decode cX11_cancel 4 = .ok (.getfield 133, 3) := by decide +kernel
theorem dX11_cancel_7 : decode cX11_cancel 7 = .ok (.getfield 198, 3) := by decide +kernel
theorem dX11_cancel_10 : decode cX11_cancel 10 = .ok (.istore_n 2, 1) := by decide +kernel
theorem dX11_cancel_11 : decode cX11_cancel 11 = .ok (.iload_n 1, 1) := by decide +kernel
theorem dX11_cancel_12 : decode cX11_cancel 12 = .ok (.ifCond .lt 18, 3) := by decide +kernel
theorem dX11_cancel_15 : decode cX11_cancel 15 = .ok (.iload_n 1, 1) := by decide +kernel
theorem dX11_cancel_16 : decode cX11_cancel 16 = .ok (.iconst 4, 1) := by decide +kernel
theorem dX11_cancel_17 : decode cX11_cancel 17 = .ok (.if_icmp .gt 13, 3) := by decide +kernel
theorem dX11_cancel_20 : decode cX11_cancel 20 = .ok (.iload_n 2, 1) := by decide +kernel
theorem dX11_cancel_21 : decode cX11_cancel 21 = .ok (.ifCond .eq 9, 3) := by decide +kernel
theorem dX11_cancel_24 : decode cX11_cancel 24 = .ok (.iload_n 2, 1) := by decide +kernel
theorem dX11_cancel_25 : decode cX11_cancel 25 = .ok (.bipush 8, 2) := by decide +kernel
theorem dX11_cancel_27 : decode cX11_cancel 27 = .ok (.if_icmp .le 5, 3) := by decide +kernel
theorem dX11_cancel_30 : decode cX11_cancel 30 = .ok (.iconst (-1), 1) := by decide +kernel
theorem dX11_cancel_31 : decode cX11_cancel 31 = .ok (.ireturn, 1) := by decide +kernel
theorem dX11_cancel_32 : decode cX11_cancel 32 = .ok (.aload_n 0, 1) := by decide +kernel
theorem dX11_cancel_33 : decode cX11_cancel 33 = .ok (.getfield 69, 3) := by decide +kernel
theorem dX11_cancel_36 : decode cX11_cancel 36 = .ok (.aload_n 0, 1) := by decide +kernel
theorem dX11_cancel_37 : decode cX11_cancel 37 = .ok (.getfield 19, 3) := by decide +kernel
theorem dX11_cancel_40 : decode cX11_cancel 40 = .ok (.iload_n 1, 1) := by decide +kernel
theorem dX11_cancel_41 : decode cX11_cancel 41 = .ok (.invokevirtual 259, 3) := by decide +kernel
theorem dX11_cancel_44 : decode cX11_cancel 44 = .ok (.ireturn, 1) := by decide +kernel
theorem dX11_check_0 : decode cX11_check 0 = .ok (.iload_n 1, 1) := by decide +kernel
theorem dX11_check_1 : decode cX11_check 1 = .ok (.ifCond .lt 22, 3) := by decide +kernel
theorem dX11_check_4 : decode cX11_check 4 = .ok (.iload_n 1, 1) := by decide +kernel
theorem dX11_check_5 : decode cX11_check 5 = .ok (.bipush 20, 2) := by decide +kernel
theorem dX11_check_7 : decode cX11_check 7 = .ok (.if_icmp .gt 16, 3) := by decide +kernel
theorem dX11_check_10 : decode cX11_check 10 = .ok (.iconst 4, 1) := by decide +kernel
theorem dX11_check_11 : decode cX11_check 11 = .ok (.iload_n 1, 1) := by decide +kernel
theorem dX11_check_12 : decode cX11_check 12 = .ok (.imul, 1) := by decide +kernel
theorem dX11_check_13 : decode cX11_check 13 = .ok (.aload_n 0, 1) := by decide +kernel
theorem dX11_check_14 : decode cX11_check 14 = .ok (.getfield 10, 3) := by decide +kernel
theorem dX11_check_17 : decode cX11_check 17 = .ok (.getfield 116, 3) := by decide +kernel
theorem dX11_check_20 : decode cX11_check 20 = .ok (.if_icmp .le 6, 3) := by decide +kernel
theorem dX11_check_23 : decode cX11_check 23 = .ok (.bipush (-2), 2) := by decide +kernel
theorem dX11_check_25 : decode cX11_check 25 = .ok (.ireturn, 1) := by decide +kernel
theorem dX11_check_26 : decode cX11_check 26 = .ok (.iconst (-1), 1) := by decide +kernel
theorem dX11_check_27 : decode cX11_check 27 = .ok (.istore_n 2, 1) := by decide +kernel
theorem dX11_check_28 : decode cX11_check 28 = .ok (.iconst 0, 1) := by decide +kernel
theorem dX11_check_29 : decode cX11_check 29 = .ok (.istore_n 3, 1) := by decide +kernel
theorem dX11_check_30 : decode cX11_check 30 = .ok (.iload_n 3, 1) := by decide +kernel
theorem dX11_check_31 : decode cX11_check 31 = .ok (.iload_n 1, 1) := by decide +kernel
theorem dX11_check_32 : decode cX11_check 32 = .ok (.if_icmp .ge 49, 3) := by decide +kernel
theorem dX11_check_35 : decode cX11_check 35 = .ok (.iload_n 2, 1) := by decide +kernel
theorem dX11_check_36 : decode cX11_check 36 = .ok (.iconst (-1), 1) := by decide +kernel
theorem dX11_check_37 : decode cX11_check 37 = .ok (.if_icmp .ne 44, 3) := by decide +kernel
theorem dX11_check_40 : decode cX11_check 40 = .ok (.aload_n 0, 1) := by decide +kernel
theorem dX11_check_41 : decode cX11_check 41 = .ok (.getfield 19, 3) := by decide +kernel
theorem dX11_check_44 : decode cX11_check 44 = .ok (.getfield 133, 3) := by decide +kernel
theorem dX11_check_47 : decode cX11_check 47 = .ok (.iload_n 3, 1) := by decide +kernel
theorem dX11_check_48 : decode cX11_check 48 = .ok (.invokevirtual 155, 3) := by decide +kernel
theorem dX11_check_51 : decode cX11_check 51 = .ok (.ifCond .eq 22, 3) := by decide +kernel
theorem dX11_check_54 : decode cX11_check 54 = .ok (.aload_n 0, 1) := by decide +kernel
theorem dX11_check_55 : decode cX11_check 55 = .ok (.getfield 10, 3) := by decide +kernel
theorem dX11_check_58 : decode cX11_check 58 = .ok (.iload_n 3, 1) := by decide +kernel
theorem dX11_check_59 : decode cX11_check 59 = .ok (.invokevirtual 335, 3) := by decide +kernel
theorem dX11_check_62 : decode cX11_check 62 = .ok (.aload_n 0, 1) := by decide +kernel
theorem dX11_check_63 : decode cX11_check 63 = .ok (.getfield 19, 3) := by decide +kernel
theorem dX11_check_66 : decode cX11_check 66 = .ok (.iload_n 3, 1) := by decide +kernel
theorem dX11_check_67 : decode cX11_check 67 = .ok (.invokevirtual 158, 3) := by decide +kernel
theorem dX11_check_70 : decode cX11_check 70 = .ok (.if_icmp .eq 5, 3) := by decide +kernel
theorem dX11_check_73 : decode cX11_check 73 = .ok (.iload_n 3, 1) := by decide +kernel
theorem dX11_check_74 : decode cX11_check 74 = .ok (.istore_n 2, 1) := by decide +kernel
theorem dX11_check_75 : decode cX11_check 75 = .ok (.iinc 3 1, 3) := by decide +kernel
theorem dX11_check_78 : decode cX11_check 78 = .ok (.goto (-48), 3) := by decide +kernel
theorem dX11_check_81 : decode cX11_check 81 = .ok (.aload_n 0, 1) := by decide +kernel
theorem dX11_check_82 : decode cX11_check 82 = .ok (.getfield 10, 3) := by decide +kernel
theorem dX11_check_85 : decode cX11_check 85 = .ok (.invokevirtual 130, 3) := by decide +kernel
theorem dX11_check_88 : decode cX11_check 88 = .ok (.iload_n 2, 1) := by decide +kernel
theorem dX11_check_89 : decode cX11_check 89 = .ok (.ireturn, 1) := by decide +kernel
theorem dX11_copied_0 : decode cX11_copied 0 = .ok (.iload_n 1, 1) := by decide +kernel
theorem dX11_copied_1 : decode cX11_copied 1 = .ok (.iconst 1, 1) := by decide +kernel
theorem dX11_copied_2 : decode cX11_copied 2 = .ok (.if_icmp .lt 22, 3) := by decide +kernel
theorem dX11_copied_5 : decode cX11_copied 5 = .ok (.iload_n 1, 1) := by decide +kernel
theorem dX11_copied_6 : decode cX11_copied 6 = .ok (.bipush 20, 2) := by decide +kernel
theorem dX11_copied_8 : decode cX11_copied 8 = .ok (.if_icmp .gt 16, 3) := by decide +kernel
theorem dX11_copied_11 : decode cX11_copied 11 = .ok (.aload_n 0, 1) := by decide +kernel
theorem dX11_copied_12 : decode cX11_copied 12 = .ok (.getfield 19, 3) := by decide +kernel
theorem dX11_copied_15 : decode cX11_copied 15 = .ok (.getfield 133, 3) := by decide +kernel
theorem dX11_copied_18 : decode cX11_copied 18 = .ok (.getfield 198, 3) := by decide +kernel
theorem dX11_copied_21 : decode cX11_copied 21 = .ok (.ifCond .ne 5, 3) := by decide +kernel
theorem dX11_copied_24 : decode cX11_copied 24 = .ok (.iconst (-1), 1) := by decide +kernel
theorem dX11_copied_25 : decode cX11_copied 25 = .ok (.ireturn, 1) := by decide +kernel
theorem dX11_copied_26 : decode cX11_copied 26 = .ok (.iconst 0, 1) := by decide +kernel
theorem dX11_copied_27 : decode cX11_copied 27 = .ok (.istore_n 2, 1) := by decide +kernel
theorem dX11_copied_28 : decode cX11_copied 28 = .ok (.iconst 0, 1) := by decide +kernel
theorem dX11_copied_29 : decode cX11_copied 29 = .ok (.istore_n 3, 1) := by decide +kernel
theorem dX11_copied_30 : decode cX11_copied 30 = .ok (.iload_n 3, 1) := by decide +kernel
theorem dX11_copied_31 : decode cX11_copied 31 = .ok (.iload_n 1, 1) := by decide +kernel
theorem dX11_copied_32 : decode cX11_copied 32 = .ok (.if_icmp .ge 24, 3) := by decide +kernel
theorem dX11_copied_35 : decode cX11_copied 35 = .ok (.iload_n 2, 1) := by decide +kernel
theorem dX11_copied_36 : decode cX11_copied 36 = .ok (.aload_n 0, 1) := by decide +kernel
theorem dX11_copied_37 : decode cX11_copied 37 = .ok (.invokevirtual 309, 3) := by decide +kernel
theorem dX11_copied_40 : decode cX11_copied 40 = .ok (.ifCond .eq 7, 3) := by decide +kernel
theorem dX11_copied_43 : decode cX11_copied 43 = .ok (.iconst 1, 1) := by decide +kernel
theorem dX11_copied_44 : decode cX11_copied 44 = .ok (.goto 4, 3) := by decide +kernel
theorem dX11_copied_47 : decode cX11_copied 47 = .ok (.iconst 0, 1) := by decide +kernel
theorem dX11_copied_48 : decode cX11_copied 48 = .ok (.iadd, 1) := by decide +kernel
theorem dX11_copied_49 : decode cX11_copied 49 = .ok (.istore_n 2, 1) := by decide +kernel
theorem dX11_copied_50 : decode cX11_copied 50 = .ok (.iinc 3 1, 3) := by decide +kernel
theorem dX11_copied_53 : decode cX11_copied 53 = .ok (.goto (-23), 3) := by decide +kernel
theorem dX11_copied_56 : decode cX11_copied 56 = .ok (.iload_n 2, 1) := by decide +kernel
theorem dX11_copied_57 : decode cX11_copied 57 = .ok (.ireturn, 1) := by decide +kernel
theorem dX11_copyOnce_0 : decode cX11_copyOnce 0 = .ok (.aload_n 0, 1) := by decide +kernel
theorem dX11_copyOnce_1 : decode cX11_copyOnce 1 = .ok (.getfield 19, 3) := by decide +kernel
theorem dX11_copyOnce_4 : decode cX11_copyOnce 4 = .ok (.invokevirtual 366, 3) := by decide +kernel
theorem dX11_copyOnce_7 : decode cX11_copyOnce 7 = .ok (.aload_n 0, 1) := by decide +kernel
theorem dX11_copyOnce_8 : decode cX11_copyOnce 8 = .ok (.getfield 19, 3) := by decide +kernel
theorem dX11_copyOnce_11 : decode cX11_copyOnce 11 = .ok (.getfield 133, 3) := by decide +kernel
theorem dX11_copyOnce_14 : decode cX11_copyOnce 14 = .ok (.getfield 198, 3) := by decide +kernel
theorem dX11_copyOnce_17 : decode cX11_copyOnce 17 = .ok (.ifCond .le 24, 3) := by decide +kernel
theorem dX11_copyOnce_20 : decode cX11_copyOnce 20 = .ok (.aload_n 0, 1) := by decide +kernel
theorem dX11_copyOnce_21 : decode cX11_copyOnce 21 = .ok (.getfield 19, 3) := by decide +kernel
theorem dX11_copyOnce_24 : decode cX11_copyOnce 24 = .ok (.getfield 306, 3) := by decide +kernel
theorem dX11_copyOnce_27 : decode cX11_copyOnce 27 = .ok (.aload_n 0, 1) := by decide +kernel
theorem dX11_copyOnce_28 : decode cX11_copyOnce 28 = .ok (.getfield 19, 3) := by decide +kernel
theorem dX11_copyOnce_31 : decode cX11_copyOnce 31 = .ok (.getfield 133, 3) := by decide +kernel
theorem dX11_copyOnce_34 : decode cX11_copyOnce 34 = .ok (.getfield 198, 3) := by decide +kernel
theorem dX11_copyOnce_37 : decode cX11_copyOnce 37 = .ok (.irem, 1) := by decide +kernel
theorem dX11_copyOnce_38 : decode cX11_copyOnce 38 = .ok (.goto 4, 3) := by decide +kernel
theorem dX11_copyOnce_41 : decode cX11_copyOnce 41 = .ok (.iconst 0, 1) := by decide +kernel
theorem dX11_copyOnce_42 : decode cX11_copyOnce 42 = .ok (.istore_n 1, 1) := by decide +kernel
theorem dX11_copyOnce_43 : decode cX11_copyOnce 43 = .ok (.aload_n 0, 1) := by decide +kernel
theorem dX11_copyOnce_44 : decode cX11_copyOnce 44 = .ok (.getfield 19, 3) := by decide +kernel
theorem dX11_copyOnce_47 : decode cX11_copyOnce 47 = .ok (.getfield 306, 3) := by decide +kernel
theorem dX11_copyOnce_50 : decode cX11_copyOnce 50 = .ok (.bipush 32, 2) := by decide +kernel
theorem dX11_copyOnce_52 : decode cX11_copyOnce 52 = .ok (.idiv, 1) := by decide +kernel
theorem dX11_copyOnce_53 : decode cX11_copyOnce 53 = .ok (.bipush 10, 2) := by decide +kernel
theorem dX11_copyOnce_55 : decode cX11_copyOnce 55 = .ok (.irem, 1) := by decide +kernel
theorem dX11_copyOnce_56 : decode cX11_copyOnce 56 = .ok (.aload_n 0, 1) := by decide +kernel
theorem dX11_copyOnce_57 : decode cX11_copyOnce 57 = .ok (.bipush 99, 2) := by decide +kernel
theorem dX11_copyOnce_59 : decode cX11_copyOnce 59 = .ok (.iload_n 1, 1) := by decide +kernel
theorem dX11_copyOnce_60 : decode cX11_copyOnce 60 = .ok (.iconst 0, 1) := by decide +kernel
theorem dX11_copyOnce_61 : decode cX11_copyOnce 61 = .ok (.invokevirtual 285, 3) := by decide +kernel
theorem dX11_copyOnce_64 : decode cX11_copyOnce 64 = .ok (.if_icmp .lt 5, 3) := by decide +kernel
theorem dX11_copyOnce_67 : decode cX11_copyOnce 67 = .ok (.iconst 0, 1) := by decide +kernel
theorem dX11_copyOnce_68 : decode cX11_copyOnce 68 = .ok (.ireturn, 1) := by decide +kernel
theorem dX11_copyOnce_69 : decode cX11_copyOnce 69 = .ok (.iconst 1, 1) := by decide +kernel
theorem dX11_copyOnce_70 : decode cX11_copyOnce 70 = .ok (.aload_n 0, 1) := by decide +kernel
theorem dX11_copyOnce_71 : decode cX11_copyOnce 71 = .ok (.getfield 19, 3) := by decide +kernel
theorem dX11_copyOnce_74 : decode cX11_copyOnce 74 = .ok (.getfield 123, 3) := by decide +kernel
theorem dX11_copyOnce_77 : decode cX11_copyOnce 77 = .ok (.iconst 1, 1) := by decide +kernel
theorem dX11_copyOnce_78 : decode cX11_copyOnce 78 = .ok (.isub, 1) := by decide +kernel
theorem dX11_copyOnce_79 : decode cX11_copyOnce 79 = .ok (.invokestatic 369, 3) := by decide +kernel
theorem dX11_copyOnce_82 : decode cX11_copyOnce 82 = .ok (.istore_n 2, 1) := by decide +kernel
theorem dX11_copyOnce_83 : decode cX11_copyOnce 83 = .ok (.aload_n 0, 1) := by decide +kernel
theorem dX11_copyOnce_84 : decode cX11_copyOnce 84 = .ok (.getfield 19, 3) := by decide +kernel
theorem dX11_copyOnce_87 : decode cX11_copyOnce 87 = .ok (.aload_n 0, 1) := by decide +kernel
theorem dX11_copyOnce_88 : decode cX11_copyOnce 88 = .ok (.getfield 19, 3) := by decide +kernel
theorem dX11_copyOnce_91 : decode cX11_copyOnce 91 = .ok (.iload_n 1, 1) := by decide +kernel
theorem dX11_copyOnce_92 : decode cX11_copyOnce 92 = .ok (.invokevirtual 158, 3) := by decide +kernel
theorem dX11_copyOnce_95 : decode cX11_copyOnce 95 = .ok (.iconst 1, 1) := by decide +kernel
theorem dX11_copyOnce_96 : decode cX11_copyOnce 96 = .ok (.iadd, 1) := by decide +kernel
theorem dX11_copyOnce_97 : decode cX11_copyOnce 97 = .ok (.aload_n 0, 1) := by decide +kernel
theorem dX11_copyOnce_98 : decode cX11_copyOnce 98 = .ok (.getfield 19, 3) := by decide +kernel
theorem dX11_copyOnce_101 : decode cX11_copyOnce 101 = .ok (.getfield 306, 3) := by decide +kernel
theorem dX11_copyOnce_104 : decode cX11_copyOnce 104 = .ok (.sipush 512, 3) := by decide +kernel
theorem dX11_copyOnce_107 : decode cX11_copyOnce 107 = .ok (.idiv, 1) := by decide +kernel
theorem dX11_copyOnce_108 : decode cX11_copyOnce 108 = .ok (.iload_n 2, 1) := by decide +kernel
theorem dX11_copyOnce_109 : decode cX11_copyOnce 109 = .ok (.irem, 1) := by decide +kernel
theorem dX11_copyOnce_110 : decode cX11_copyOnce 110 = .ok (.iadd, 1) := by decide +kernel
theorem dX11_copyOnce_111 : decode cX11_copyOnce 111 = .ok (.invokevirtual 374, 3) := by decide +kernel
theorem dX11_copyOnce_114 : decode cX11_copyOnce 114 = .ok (.istore_n 3, 1) := by decide +kernel
theorem dX11_copyOnce_115 : decode cX11_copyOnce 115 = .ok (.aload_n 0, 1) := by decide +kernel
theorem dX11_copyOnce_116 : decode cX11_copyOnce 116 = .ok (.getfield 19, 3) := by decide +kernel
theorem dX11_copyOnce_119 : decode cX11_copyOnce 119 = .ok (.iload_n 1, 1) := by decide +kernel
theorem dX11_copyOnce_120 : decode cX11_copyOnce 120 = .ok (.iload_n 3, 1) := by decide +kernel
theorem dX11_copyOnce_121 : decode cX11_copyOnce 121 = .ok (.aload_n 0, 1) := by decide +kernel
theorem dX11_copyOnce_122 : decode cX11_copyOnce 122 = .ok (.getfield 19, 3) := by decide +kernel
theorem dX11_copyOnce_125 : decode cX11_copyOnce 125 = .ok (.getfield 133, 3) := by decide +kernel
theorem dX11_copyOnce_128 : decode cX11_copyOnce 128 = .ok (.getfield 178, 3) := by decide +kernel
theorem dX11_copyOnce_131 : decode cX11_copyOnce 131 = .ok (.invokevirtual 207, 3) := by decide +kernel
theorem dX11_copyOnce_134 : decode cX11_copyOnce 134 = .ok (.iconst 1, 1) := by decide +kernel
theorem dX11_copyOnce_135 : decode cX11_copyOnce 135 = .ok (.ireturn, 1) := by decide +kernel
theorem dX11_copyRow_0 : decode cX11_copyRow 0 = .ok (.iconst 0, 1) := by decide +kernel
theorem dX11_copyRow_1 : decode cX11_copyRow 1 = .ok (.istore_n 2, 1) := by decide +kernel
theorem dX11_copyRow_2 : decode cX11_copyRow 2 = .ok (.iload_n 2, 1) := by decide +kernel
theorem dX11_copyRow_3 : decode cX11_copyRow 3 = .ok (.aload_n 0, 1) := by decide +kernel
theorem dX11_copyRow_4 : decode cX11_copyRow 4 = .ok (.arraylength, 1) := by decide +kernel
theorem dX11_copyRow_5 : decode cX11_copyRow 5 = .ok (.if_icmp .ge 21, 3) := by decide +kernel
theorem dX11_copyRow_8 : decode cX11_copyRow 8 = .ok (.iload_n 2, 1) := by decide +kernel
theorem dX11_copyRow_9 : decode cX11_copyRow 9 = .ok (.aload_n 1, 1) := by decide +kernel
theorem dX11_copyRow_10 : decode cX11_copyRow 10 = .ok (.arraylength, 1) := by decide +kernel
theorem dX11_copyRow_11 : decode cX11_copyRow 11 = .ok (.if_icmp .ge 15, 3) := by decide +kernel
theorem dX11_copyRow_14 : decode cX11_copyRow 14 = .ok (.aload_n 1, 1) := by decide +kernel
theorem dX11_copyRow_15 : decode cX11_copyRow 15 = .ok (.iload_n 2, 1) := by decide +kernel
theorem dX11_copyRow_16 : decode cX11_copyRow 16 = .ok (.aload_n 0, 1) := by decide +kernel
theorem dX11_copyRow_17 : decode cX11_copyRow 17 = .ok (.iload_n 2, 1) := by decide +kernel
theorem dX11_copyRow_18 : decode cX11_copyRow 18 = .ok (.iaload, 1) := by decide +kernel
theorem dX11_copyRow_19 : decode cX11_copyRow 19 = .ok (.iastore, 1) := by decide +kernel
theorem dX11_copyRow_20 : decode cX11_copyRow 20 = .ok (.iinc 2 1, 3) := by decide +kernel
theorem dX11_copyRow_23 : decode cX11_copyRow 23 = .ok (.goto (-21), 3) := by decide +kernel
theorem dX11_copyRow_26 : decode cX11_copyRow 26 = .ok (.return_, 1) := by decide +kernel
theorem dX11_corrects_0 : decode cX11_corrects 0 = .ok (.iload_n 1, 1) := by decide +kernel
theorem dX11_corrects_1 : decode cX11_corrects 1 = .ok (.invokestatic 323, 3) := by decide +kernel
theorem dX11_corrects_4 : decode cX11_corrects 4 = .ok (.ifCond .eq 28, 3) := by decide +kernel
theorem dX11_corrects_7 : decode cX11_corrects 7 = .ok (.aload_n 0, 1) := by decide +kernel
theorem dX11_corrects_8 : decode cX11_corrects 8 = .ok (.getfield 19, 3) := by decide +kernel
theorem dX11_corrects_11 : decode cX11_corrects 11 = .ok (.getfield 133, 3) := by decide +kernel
theorem dX11_corrects_14 : decode cX11_corrects 14 = .ok (.iload_n 2, 1) := by decide +kernel
theorem dX11_corrects_15 : decode cX11_corrects 15 = .ok (.invokevirtual 155, 3) := by decide +kernel
theorem dX11_corrects_18 : decode cX11_corrects 18 = .ok (.ifCond .eq 14, 3) := by decide +kernel
theorem dX11_corrects_21 : decode cX11_corrects 21 = .ok (.aload_n 0, 1) := by decide +kernel
theorem dX11_corrects_22 : decode cX11_corrects 22 = .ok (.getfield 19, 3) := by decide +kernel
theorem dX11_corrects_25 : decode cX11_corrects 25 = .ok (.iload_n 3, 1) := by decide +kernel
theorem dX11_corrects_26 : decode cX11_corrects 26 = .ok (.invokevirtual 105, 3) := by decide +kernel
theorem dX11_corrects_29 : decode cX11_corrects 29 = .ok (.ifCond .ne 7, 3) := by decide +kernel
theorem dX11_corrects_32 : decode cX11_corrects 32 = .ok (.sipush (-1000), 3) := by decide +kernel
theorem dX11_corrects_35 : decode cX11_corrects 35 = .ok (.ireturn, 1) := by decide +kernel
theorem dX11_corrects_36 : decode cX11_corrects 36 = .ok (.aload_n 0, 1) := by decide +kernel
theorem dX11_corrects_37 : decode cX11_corrects 37 = .ok (.getfield 19, 3) := by decide +kernel
theorem dX11_corrects_40 : decode cX11_corrects 40 = .ok (.iload_n 2, 1) := by decide +kernel
theorem dX11_corrects_41 : decode cX11_corrects 41 = .ok (.invokevirtual 191, 3) := by decide +kernel
theorem dX11_corrects_44 : decode cX11_corrects 44 = .ok (.ifCond .eq 29, 3) := by decide +kernel
theorem dX11_corrects_47 : decode cX11_corrects 47 = .ok (.iload_n 3, 1) := by decide +kernel
theorem dX11_corrects_48 : decode cX11_corrects 48 = .ok (.aload_n 0, 1) := by decide +kernel
theorem dX11_corrects_49 : decode cX11_corrects 49 = .ok (.getfield 19, 3) := by decide +kernel
theorem dX11_corrects_52 : decode cX11_corrects 52 = .ok (.iload_n 2, 1) := by decide +kernel
theorem dX11_corrects_53 : decode cX11_corrects 53 = .ok (.aload_n 0, 1) := by decide +kernel
theorem dX11_corrects_54 : decode cX11_corrects 54 = .ok (.getfield 19, 3) := by decide +kernel
theorem dX11_corrects_57 : decode cX11_corrects 57 = .ok (.getfield 133, 3) := by decide +kernel
theorem dX11_corrects_60 : decode cX11_corrects 60 = .ok (.getfield 178, 3) := by decide +kernel
theorem dX11_corrects_63 : decode cX11_corrects 63 = .ok (.invokevirtual 181, 3) := by decide +kernel
theorem dX11_corrects_66 : decode cX11_corrects 66 = .ok (.if_icmp .ne 7, 3) := by decide +kernel
theorem dX11_corrects_69 : decode cX11_corrects 69 = .ok (.iconst 1, 1) := by decide +kernel
theorem dX11_corrects_70 : decode cX11_corrects 70 = .ok (.goto 4, 3) := by decide +kernel
theorem dX11_corrects_73 : decode cX11_corrects 73 = .ok (.iconst 0, 1) := by decide +kernel
theorem dX11_corrects_74 : decode cX11_corrects 74 = .ok (.istore 4, 2) := by decide +kernel
theorem dX11_corrects_76 : decode cX11_corrects 76 = .ok (.iload 4, 2) := by decide +kernel
theorem dX11_corrects_78 : decode cX11_corrects 78 = .ok (.ifCond .eq 22, 3) := by decide +kernel
theorem dX11_corrects_81 : decode cX11_corrects 81 = .ok (.aload_n 0, 1) := by decide +kernel
theorem dX11_corrects_82 : decode cX11_corrects 82 = .ok (.getfield 19, 3) := by decide +kernel
theorem dX11_corrects_85 : decode cX11_corrects 85 = .ok (.iload_n 2, 1) := by decide +kernel
theorem dX11_corrects_86 : decode cX11_corrects 86 = .ok (.iload_n 3, 1) := by decide +kernel
theorem dX11_corrects_87 : decode cX11_corrects 87 = .ok (.aload_n 0, 1) := by decide +kernel
theorem dX11_corrects_88 : decode cX11_corrects 88 = .ok (.getfield 19, 3) := by decide +kernel
theorem dX11_corrects_91 : decode cX11_corrects 91 = .ok (.getfield 133, 3) := by decide +kernel
theorem dX11_corrects_94 : decode cX11_corrects 94 = .ok (.getfield 178, 3) := by decide +kernel
theorem dX11_corrects_97 : decode cX11_corrects 97 = .ok (.invokevirtual 207, 3) := by decide +kernel
theorem dX11_corrects_100 : decode cX11_corrects 100 = .ok (.aload_n 0, 1) := by decide +kernel
theorem dX11_corrects_101 : decode cX11_corrects 101 = .ok (.getfield 19, 3) := by decide +kernel
theorem dX11_corrects_104 : decode cX11_corrects 104 = .ok (.getfield 326, 3) := by decide +kernel
theorem dX11_corrects_107 : decode cX11_corrects 107 = .ok (.iload_n 1, 1) := by decide +kernel
theorem dX11_corrects_108 : decode cX11_corrects 108 = .ok (.invokestatic 164, 3) := by decide +kernel
theorem dX11_corrects_111 : decode cX11_corrects 111 = .ok (.iload 4, 2) := by decide +kernel
theorem dX11_corrects_113 : decode cX11_corrects 113 = .ok (.ifCond .eq 7, 3) := by decide +kernel
theorem dX11_corrects_116 : decode cX11_corrects 116 = .ok (.iconst 1, 1) := by decide +kernel
theorem dX11_corrects_117 : decode cX11_corrects 117 = .ok (.goto 4, 3) := by decide +kernel
theorem dX11_corrects_120 : decode cX11_corrects 120 = .ok (.iconst (-1), 1) := by decide +kernel
theorem dX11_corrects_121 : decode cX11_corrects 121 = .ok (.iadd, 1) := by decide +kernel
theorem dX11_corrects_122 : decode cX11_corrects 122 = .ok (.istore 5, 2) := by decide +kernel
theorem dX11_corrects_124 : decode cX11_corrects 124 = .ok (.aload_n 0, 1) := by decide +kernel
theorem dX11_corrects_125 : decode cX11_corrects 125 = .ok (.getfield 19, 3) := by decide +kernel
theorem dX11_corrects_128 : decode cX11_corrects 128 = .ok (.getfield 326, 3) := by decide +kernel
theorem dX11_corrects_131 : decode cX11_corrects 131 = .ok (.iload_n 1, 1) := by decide +kernel
theorem dX11_corrects_132 : decode cX11_corrects 132 = .ok (.iload 5, 2) := by decide +kernel
theorem dX11_corrects_134 : decode cX11_corrects 134 = .ok (.bipush (-99), 2) := by decide +kernel
theorem dX11_corrects_136 : decode cX11_corrects 136 = .ok (.bipush 99, 2) := by decide +kernel
theorem dX11_corrects_138 : decode cX11_corrects 138 = .ok (.invokestatic 329, 3) := by decide +kernel
theorem dX11_corrects_141 : decode cX11_corrects 141 = .ok (.invokestatic 112, 3) := by decide +kernel
theorem dX11_corrects_144 : decode cX11_corrects 144 = .ok (.aload_n 0, 1) := by decide +kernel
theorem dX11_corrects_145 : decode cX11_corrects 145 = .ok (.getfield 19, 3) := by decide +kernel
theorem dX11_corrects_148 : decode cX11_corrects 148 = .ok (.getfield 326, 3) := by decide +kernel
theorem dX11_corrects_151 : decode cX11_corrects 151 = .ok (.iload_n 1, 1) := by decide +kernel
theorem dX11_corrects_152 : decode cX11_corrects 152 = .ok (.invokestatic 164, 3) := by decide +kernel
theorem dX11_corrects_155 : decode cX11_corrects 155 = .ok (.ireturn, 1) := by decide +kernel
theorem dX11_count_0 : decode cX11_count 0 = .ok (.iload_n 1, 1) := by decide +kernel
theorem dX11_count_1 : decode cX11_count 1 = .ok (.bipush 10, 2) := by decide +kernel
theorem dX11_count_3 : decode cX11_count 3 = .ok (.if_icmp .lt 24, 3) := by decide +kernel
theorem dX11_count_6 : decode cX11_count 6 = .ok (.iload_n 1, 1) := by decide +kernel
theorem dX11_count_7 : decode cX11_count 7 = .ok (.bipush 20, 2) := by decide +kernel
theorem dX11_count_9 : decode cX11_count 9 = .ok (.if_icmp .ge 18, 3) := by decide +kernel
theorem dX11_count_12 : decode cX11_count 12 = .ok (.aload_n 0, 1) := by decide +kernel
theorem dX11_count_13 : decode cX11_count 13 = .ok (.getfield 19, 3) := by decide +kernel
theorem dX11_count_16 : decode cX11_count 16 = .ok (.getfield 109, 3) := by decide +kernel
theorem dX11_count_19 : decode cX11_count 19 = .ok (.iload_n 1, 1) := by decide +kernel
theorem dX11_count_20 : decode cX11_count 20 = .ok (.bipush 10, 2) := by decide +kernel
theorem dX11_count_22 : decode cX11_count 22 = .ok (.isub, 1) := by decide +kernel
theorem dX11_count_23 : decode cX11_count 23 = .ok (.invokestatic 164, 3) := by decide +kernel
theorem dX11_count_26 : decode cX11_count 26 = .ok (.ireturn, 1) := by decide +kernel
theorem dX11_count_27 : decode cX11_count 27 = .ok (.iload_n 1, 1) := by decide +kernel
theorem dX11_count_28 : decode cX11_count 28 = .ok (.tableswitch 119 0 6 #[44, 55, 63, 71, 79, 87, 103], 44) := by decide +kernel
theorem dX11_count_72 : decode cX11_count 72 = .ok (.aload_n 0, 1) := by decide +kernel
theorem dX11_count_73 : decode cX11_count 73 = .ok (.getfield 19, 3) := by decide +kernel
theorem dX11_count_76 : decode cX11_count 76 = .ok (.getfield 133, 3) := by decide +kernel
theorem dX11_count_79 : decode cX11_count 79 = .ok (.getfield 198, 3) := by decide +kernel
theorem dX11_count_82 : decode cX11_count 82 = .ok (.ireturn, 1) := by decide +kernel
theorem dX11_count_83 : decode cX11_count 83 = .ok (.aload_n 0, 1) := by decide +kernel
theorem dX11_count_84 : decode cX11_count 84 = .ok (.getfield 49, 3) := by decide +kernel
theorem dX11_count_87 : decode cX11_count 87 = .ok (.getfield 338, 3) := by decide +kernel
theorem dX11_count_90 : decode cX11_count 90 = .ok (.ireturn, 1) := by decide +kernel
theorem dX11_count_91 : decode cX11_count 91 = .ok (.aload_n 0, 1) := by decide +kernel
theorem dX11_count_92 : decode cX11_count 92 = .ok (.getfield 10, 3) := by decide +kernel
theorem dX11_count_95 : decode cX11_count 95 = .ok (.getfield 116, 3) := by decide +kernel
theorem dX11_count_98 : decode cX11_count 98 = .ok (.ireturn, 1) := by decide +kernel
theorem dX11_count_99 : decode cX11_count 99 = .ok (.aload_n 0, 1) := by decide +kernel
theorem dX11_count_100 : decode cX11_count 100 = .ok (.getfield 19, 3) := by decide +kernel
theorem dX11_count_103 : decode cX11_count 103 = .ok (.getfield 306, 3) := by decide +kernel
theorem dX11_count_106 : decode cX11_count 106 = .ok (.ireturn, 1) := by decide +kernel
theorem dX11_count_107 : decode cX11_count 107 = .ok (.aload_n 0, 1) := by decide +kernel
theorem dX11_count_108 : decode cX11_count 108 = .ok (.getfield 19, 3) := by decide +kernel
theorem dX11_count_111 : decode cX11_count 111 = .ok (.getfield 123, 3) := by decide +kernel
theorem dX11_count_114 : decode cX11_count 114 = .ok (.ireturn, 1) := by decide +kernel
theorem dX11_count_115 : decode cX11_count 115 = .ok (.aload_n 0, 1) := by decide +kernel
theorem dX11_count_116 : decode cX11_count 116 = .ok (.aload_n 0, 1) := by decide +kernel
theorem dX11_count_117 : decode cX11_count 117 = .ok (.getfield 19, 3) := by decide +kernel
theorem dX11_count_120 : decode cX11_count 120 = .ok (.getfield 133, 3) := by decide +kernel
theorem dX11_count_123 : decode cX11_count 123 = .ok (.invokevirtual 211, 3) := by decide +kernel
theorem dX11_count_126 : decode cX11_count 126 = .ok (.iconst 0, 1) := by decide +kernel
theorem dX11_count_127 : decode cX11_count 127 = .ok (.invokevirtual 341, 3) := by decide +kernel
theorem dX11_count_130 : decode cX11_count 130 = .ok (.ireturn, 1) := by decide +kernel
theorem dX11_count_131 : decode cX11_count 131 = .ok (.aload_n 0, 1) := by decide +kernel
theorem dX11_count_132 : decode cX11_count 132 = .ok (.aload_n 0, 1) := by decide +kernel
theorem dX11_count_133 : decode cX11_count 133 = .ok (.getfield 19, 3) := by decide +kernel
theorem dX11_count_136 : decode cX11_count 136 = .ok (.getfield 133, 3) := by decide +kernel
theorem dX11_count_139 : decode cX11_count 139 = .ok (.invokevirtual 211, 3) := by decide +kernel
theorem dX11_count_142 : decode cX11_count 142 = .ok (.iconst 4, 1) := by decide +kernel
theorem dX11_count_143 : decode cX11_count 143 = .ok (.invokevirtual 341, 3) := by decide +kernel
theorem dX11_count_146 : decode cX11_count 146 = .ok (.ireturn, 1) := by decide +kernel
theorem dX11_count_147 : decode cX11_count 147 = .ok (.iconst (-1), 1) := by decide +kernel
theorem dX11_count_148 : decode cX11_count 148 = .ok (.ireturn, 1) := by decide +kernel
theorem dX11_differing_0 : decode cX11_differing 0 = .ok (.iconst 0, 1) := by decide +kernel
theorem dX11_differing_1 : decode cX11_differing 1 = .ok (.istore_n 3, 1) := by decide +kernel
theorem dX11_differing_2 : decode cX11_differing 2 = .ok (.iconst 0, 1) := by decide +kernel
theorem dX11_differing_3 : decode cX11_differing 3 = .ok (.istore 4, 2) := by decide +kernel
theorem dX11_differing_5 : decode cX11_differing 5 = .ok (.iload 4, 2) := by decide +kernel
theorem dX11_differing_7 : decode cX11_differing 7 = .ok (.iload_n 2, 1) := by decide +kernel
theorem dX11_differing_8 : decode cX11_differing 8 = .ok (.if_icmp .ge 32, 3) := by decide +kernel
theorem dX11_differing_11 : decode cX11_differing 11 = .ok (.aload_n 0, 1) := by decide +kernel
theorem dX11_differing_12 : decode cX11_differing 12 = .ok (.iload 4, 2) := by decide +kernel
theorem dX11_differing_14 : decode cX11_differing 14 = .ok (.invokestatic 164, 3) := by decide +kernel
theorem dX11_differing_17 : decode cX11_differing 17 = .ok (.aload_n 1, 1) := by decide +kernel
theorem dX11_differing_18 : decode cX11_differing 18 = .ok (.iload 4, 2) := by decide +kernel
theorem dX11_differing_20 : decode cX11_differing 20 = .ok (.invokestatic 164, 3) := by decide +kernel
theorem dX11_differing_23 : decode cX11_differing 23 = .ok (.if_icmp .eq 11, 3) := by decide +kernel
theorem dX11_differing_26 : decode cX11_differing 26 = .ok (.iload_n 3, 1) := by decide +kernel
theorem dX11_differing_27 : decode cX11_differing 27 = .ok (.iload 4, 2) := by decide +kernel
theorem dX11_differing_29 : decode cX11_differing 29 = .ok (.invokestatic 229, 3) := by decide +kernel
theorem dX11_differing_32 : decode cX11_differing 32 = .ok (.ior, 1) := by decide +kernel
theorem dX11_differing_33 : decode cX11_differing 33 = .ok (.istore_n 3, 1) := by decide +kernel
theorem dX11_differing_34 : decode cX11_differing 34 = .ok (.iinc 4 1, 3) := by decide +kernel
theorem dX11_differing_37 : decode cX11_differing 37 = .ok (.goto (-32), 3) := by decide +kernel
theorem dX11_differing_40 : decode cX11_differing 40 = .ok (.iload_n 3, 1) := by decide +kernel
theorem dX11_differing_41 : decode cX11_differing 41 = .ok (.ireturn, 1) := by decide +kernel
theorem dX11_feed_0 : decode cX11_feed 0 = .ok (.aload_n 0, 1) := by decide +kernel
theorem dX11_feed_1 : decode cX11_feed 1 = .ok (.getfield 10, 3) := by decide +kernel
theorem dX11_feed_4 : decode cX11_feed 4 = .ok (.getfield 116, 3) := by decide +kernel
theorem dX11_feed_7 : decode cX11_feed 7 = .ok (.bipush 20, 2) := by decide +kernel
theorem dX11_feed_9 : decode cX11_feed 9 = .ok (.iadd, 1) := by decide +kernel
theorem dX11_feed_10 : decode cX11_feed 10 = .ok (.sipush 220, 3) := by decide +kernel
theorem dX11_feed_13 : decode cX11_feed 13 = .ok (.if_icmp .le 5, 3) := by decide +kernel
theorem dX11_feed_16 : decode cX11_feed 16 = .ok (.iconst (-1), 1) := by decide +kernel
theorem dX11_feed_17 : decode cX11_feed 17 = .ok (.ireturn, 1) := by decide +kernel
theorem dX11_feed_18 : decode cX11_feed 18 = .ok (.aload_n 0, 1) := by decide +kernel
theorem dX11_feed_19 : decode cX11_feed 19 = .ok (.getfield 10, 3) := by decide +kernel
theorem dX11_feed_22 : decode cX11_feed 22 = .ok (.iload_n 1, 1) := by decide +kernel
theorem dX11_feed_23 : decode cX11_feed 23 = .ok (.invokevirtual 120, 3) := by decide +kernel
theorem dX11_feed_26 : decode cX11_feed 26 = .ok (.aload_n 0, 1) := by decide +kernel
theorem dX11_feed_27 : decode cX11_feed 27 = .ok (.getfield 10, 3) := by decide +kernel
theorem dX11_feed_30 : decode cX11_feed 30 = .ok (.iload_n 2, 1) := by decide +kernel
theorem dX11_feed_31 : decode cX11_feed 31 = .ok (.invokevirtual 120, 3) := by decide +kernel
theorem dX11_feed_34 : decode cX11_feed 34 = .ok (.aload_n 0, 1) := by decide +kernel
theorem dX11_feed_35 : decode cX11_feed 35 = .ok (.getfield 10, 3) := by decide +kernel
theorem dX11_feed_38 : decode cX11_feed 38 = .ok (.iload_n 3, 1) := by decide +kernel
theorem dX11_feed_39 : decode cX11_feed 39 = .ok (.invokevirtual 120, 3) := by decide +kernel
theorem dX11_feed_42 : decode cX11_feed 42 = .ok (.aload_n 0, 1) := by decide +kernel
theorem dX11_feed_43 : decode cX11_feed 43 = .ok (.getfield 10, 3) := by decide +kernel
theorem dX11_feed_46 : decode cX11_feed 46 = .ok (.iload 4, 2) := by decide +kernel
theorem dX11_feed_48 : decode cX11_feed 48 = .ok (.invokevirtual 120, 3) := by decide +kernel
theorem dX11_feed_51 : decode cX11_feed 51 = .ok (.aload_n 0, 1) := by decide +kernel
theorem dX11_feed_52 : decode cX11_feed 52 = .ok (.getfield 10, 3) := by decide +kernel
theorem dX11_feed_55 : decode cX11_feed 55 = .ok (.iload 5, 2) := by decide +kernel
theorem dX11_feed_57 : decode cX11_feed 57 = .ok (.invokevirtual 120, 3) := by decide +kernel
theorem dX11_feed_60 : decode cX11_feed 60 = .ok (.aload_n 0, 1) := by decide +kernel
theorem dX11_feed_61 : decode cX11_feed 61 = .ok (.getfield 10, 3) := by decide +kernel
theorem dX11_feed_64 : decode cX11_feed 64 = .ok (.getfield 116, 3) := by decide +kernel
theorem dX11_feed_67 : decode cX11_feed 67 = .ok (.ireturn, 1) := by decide +kernel
theorem dX11_findersOf_0 : decode cX11_findersOf 0 = .ok (.iconst 0, 1) := by decide +kernel
theorem dX11_findersOf_1 : decode cX11_findersOf 1 = .ok (.istore 5, 2) := by decide +kernel
theorem dX11_findersOf_3 : decode cX11_findersOf 3 = .ok (.iconst 0, 1) := by decide +kernel
theorem dX11_findersOf_4 : decode cX11_findersOf 4 = .ok (.istore 6, 2) := by decide +kernel
theorem dX11_findersOf_6 : decode cX11_findersOf 6 = .ok (.iload 6, 2) := by decide +kernel
theorem dX11_findersOf_8 : decode cX11_findersOf 8 = .ok (.bipush 10, 2) := by decide +kernel
theorem dX11_findersOf_10 : decode cX11_findersOf 10 = .ok (.if_icmp .ge 60, 3) := by decide +kernel
theorem dX11_findersOf_13 : decode cX11_findersOf 13 = .ok (.iload 5, 2) := by decide +kernel
theorem dX11_findersOf_15 : decode cX11_findersOf 15 = .ok (.iload 4, 2) := by decide +kernel
theorem dX11_findersOf_17 : decode cX11_findersOf 17 = .ok (.if_icmp .ge 53, 3) := by decide +kernel
theorem dX11_findersOf_20 : decode cX11_findersOf 20 = .ok (.iload_n 3, 1) := by decide +kernel
theorem dX11_findersOf_21 : decode cX11_findersOf 21 = .ok (.iload 6, 2) := by decide +kernel
theorem dX11_findersOf_23 : decode cX11_findersOf 23 = .ok (.invokestatic 252, 3) := by decide +kernel
theorem dX11_findersOf_26 : decode cX11_findersOf 26 = .ok (.ifCond .eq 38, 3) := by decide +kernel
theorem dX11_findersOf_29 : decode cX11_findersOf 29 = .ok (.aload_n 0, 1) := by decide +kernel
theorem dX11_findersOf_30 : decode cX11_findersOf 30 = .ok (.getfield 49, 3) := by decide +kernel
theorem dX11_findersOf_33 : decode cX11_findersOf 33 = .ok (.aload_n 0, 1) := by decide +kernel
theorem dX11_findersOf_34 : decode cX11_findersOf 34 = .ok (.getfield 19, 3) := by decide +kernel
theorem dX11_findersOf_37 : decode cX11_findersOf 37 = .ok (.iload_n 1, 1) := by decide +kernel
theorem dX11_findersOf_38 : decode cX11_findersOf 38 = .ok (.iload_n 2, 1) := by decide +kernel
theorem dX11_findersOf_39 : decode cX11_findersOf 39 = .ok (.iload 6, 2) := by decide +kernel
theorem dX11_findersOf_41 : decode cX11_findersOf 41 = .ok (.invokevirtual 348, 3) := by decide +kernel
theorem dX11_findersOf_44 : decode cX11_findersOf 44 = .ok (.iload 5, 2) := by decide +kernel
theorem dX11_findersOf_46 : decode cX11_findersOf 46 = .ok (.aload_n 0, 1) := by decide +kernel
theorem dX11_findersOf_47 : decode cX11_findersOf 47 = .ok (.getfield 49, 3) := by decide +kernel
theorem dX11_findersOf_50 : decode cX11_findersOf 50 = .ok (.invokevirtual 352, 3) := by decide +kernel
theorem dX11_findersOf_53 : decode cX11_findersOf 53 = .ok (.ifCond .eq 7, 3) := by decide +kernel
theorem dX11_findersOf_56 : decode cX11_findersOf 56 = .ok (.iconst 1, 1) := by decide +kernel
theorem dX11_findersOf_57 : decode cX11_findersOf 57 = .ok (.goto 4, 3) := by decide +kernel
theorem dX11_findersOf_60 : decode cX11_findersOf 60 = .ok (.iconst 0, 1) := by decide +kernel
theorem dX11_findersOf_61 : decode cX11_findersOf 61 = .ok (.iadd, 1) := by decide +kernel
theorem dX11_findersOf_62 : decode cX11_findersOf 62 = .ok (.istore 5, 2) := by decide +kernel
theorem dX11_findersOf_64 : decode cX11_findersOf 64 = .ok (.iinc 6 1, 3) := by decide +kernel
theorem dX11_findersOf_67 : decode cX11_findersOf 67 = .ok (.goto (-61), 3) := by decide +kernel
theorem dX11_findersOf_70 : decode cX11_findersOf 70 = .ok (.iload 5, 2) := by decide +kernel
theorem dX11_findersOf_72 : decode cX11_findersOf 72 = .ok (.ireturn, 1) := by decide +kernel
theorem dX11_forgetFound_0 : decode cX11_forgetFound 0 = .ok (.aload_n 0, 1) := by decide +kernel
theorem dX11_forgetFound_1 : decode cX11_forgetFound 1 = .ok (.getfield 63, 3) := by decide +kernel
theorem dX11_forgetFound_4 : decode cX11_forgetFound 4 = .ok (.iconst 0, 1) := by decide +kernel
theorem dX11_forgetFound_5 : decode cX11_forgetFound 5 = .ok (.iconst 0, 1) := by decide +kernel
theorem dX11_forgetFound_6 : decode cX11_forgetFound 6 = .ok (.invokestatic 112, 3) := by decide +kernel
theorem dX11_forgetFound_9 : decode cX11_forgetFound 9 = .ok (.iconst 1, 1) := by decide +kernel
theorem dX11_forgetFound_10 : decode cX11_forgetFound 10 = .ok (.istore_n 1, 1) := by decide +kernel
theorem dX11_forgetFound_11 : decode cX11_forgetFound 11 = .ok (.iload_n 1, 1) := by decide +kernel
theorem dX11_forgetFound_12 : decode cX11_forgetFound 12 = .ok (.aload_n 0, 1) := by decide +kernel
theorem dX11_forgetFound_13 : decode cX11_forgetFound 13 = .ok (.getfield 63, 3) := by decide +kernel
theorem dX11_forgetFound_16 : decode cX11_forgetFound 16 = .ok (.arraylength, 1) := by decide +kernel
theorem dX11_forgetFound_17 : decode cX11_forgetFound 17 = .ok (.if_icmp .ge 19, 3) := by decide +kernel
theorem dX11_forgetFound_20 : decode cX11_forgetFound 20 = .ok (.aload_n 0, 1) := by decide +kernel
theorem dX11_forgetFound_21 : decode cX11_forgetFound 21 = .ok (.getfield 63, 3) := by decide +kernel
theorem dX11_forgetFound_24 : decode cX11_forgetFound 24 = .ok (.iload_n 1, 1) := by decide +kernel
theorem dX11_forgetFound_25 : decode cX11_forgetFound 25 = .ok (.bipush (-2), 2) := by decide +kernel
theorem dX11_forgetFound_27 : decode cX11_forgetFound 27 = .ok (.invokestatic 112, 3) := by decide +kernel
theorem dX11_forgetFound_30 : decode cX11_forgetFound 30 = .ok (.iinc 1 1, 3) := by decide +kernel
theorem dX11_forgetFound_33 : decode cX11_forgetFound 33 = .ok (.goto (-22), 3) := by decide +kernel
theorem dX11_forgetFound_36 : decode cX11_forgetFound 36 = .ok (.return_, 1) := by decide +kernel
theorem dX11_hidden_0 : decode cX11_hidden 0 = .ok (.iload_n 1, 1) := by decide +kernel
theorem dX11_hidden_1 : decode cX11_hidden 1 = .ok (.invokestatic 242, 3) := by decide +kernel
theorem dX11_hidden_4 : decode cX11_hidden 4 = .ok (.ifCond .eq 29, 3) := by decide +kernel
theorem dX11_hidden_7 : decode cX11_hidden 7 = .ok (.iload_n 1, 1) := by decide +kernel
theorem dX11_hidden_8 : decode cX11_hidden 8 = .ok (.ifCond .eq 25, 3) := by decide +kernel
theorem dX11_hidden_11 : decode cX11_hidden 11 = .ok (.iload_n 2, 1) := by decide +kernel
theorem dX11_hidden_12 : decode cX11_hidden 12 = .ok (.ifCond .lt 21, 3) := by decide +kernel
theorem dX11_hidden_15 : decode cX11_hidden 15 = .ok (.iload_n 2, 1) := by decide +kernel
theorem dX11_hidden_16 : decode cX11_hidden 16 = .ok (.iconst 2, 1) := by decide +kernel
theorem dX11_hidden_17 : decode cX11_hidden 17 = .ok (.if_icmp .gt 16, 3) := by decide +kernel
theorem dX11_hidden_20 : decode cX11_hidden 20 = .ok (.aload_n 0, 1) := by decide +kernel
theorem dX11_hidden_21 : decode cX11_hidden 21 = .ok (.getfield 19, 3) := by decide +kernel
theorem dX11_hidden_24 : decode cX11_hidden 24 = .ok (.getfield 133, 3) := by decide +kernel
theorem dX11_hidden_27 : decode cX11_hidden 27 = .ok (.getfield 198, 3) := by decide +kernel
theorem dX11_hidden_30 : decode cX11_hidden 30 = .ok (.ifCond .ne 5, 3) := by decide +kernel
theorem dX11_hidden_33 : decode cX11_hidden 33 = .ok (.iconst (-1), 1) := by decide +kernel
theorem dX11_hidden_34 : decode cX11_hidden 34 = .ok (.ireturn, 1) := by decide +kernel
theorem dX11_hidden_35 : decode cX11_hidden 35 = .ok (.aload_n 0, 1) := by decide +kernel
theorem dX11_hidden_36 : decode cX11_hidden 36 = .ok (.getfield 19, 3) := by decide +kernel
theorem dX11_hidden_39 : decode cX11_hidden 39 = .ok (.iconst 0, 1) := by decide +kernel
theorem dX11_hidden_40 : decode cX11_hidden 40 = .ok (.aload_n 0, 1) := by decide +kernel
theorem dX11_hidden_41 : decode cX11_hidden 41 = .ok (.getfield 53, 3) := by decide +kernel
theorem dX11_hidden_44 : decode cX11_hidden 44 = .ok (.invokevirtual 174, 3) := by decide +kernel
theorem dX11_hidden_47 : decode cX11_hidden 47 = .ok (.aload_n 0, 1) := by decide +kernel
theorem dX11_hidden_48 : decode cX11_hidden 48 = .ok (.invokevirtual 219, 3) := by decide +kernel
theorem dX11_hidden_51 : decode cX11_hidden 51 = .ok (.bipush 11, 2) := by decide +kernel
theorem dX11_hidden_53 : decode cX11_hidden 53 = .ok (.istore_n 3, 1) := by decide +kernel
theorem dX11_hidden_54 : decode cX11_hidden 54 = .ok (.iconst 0, 1) := by decide +kernel
theorem dX11_hidden_55 : decode cX11_hidden 55 = .ok (.istore 4, 2) := by decide +kernel
theorem dX11_hidden_57 : decode cX11_hidden 57 = .ok (.iload 4, 2) := by decide +kernel
theorem dX11_hidden_59 : decode cX11_hidden 59 = .ok (.aload_n 0, 1) := by decide +kernel
theorem dX11_hidden_60 : decode cX11_hidden 60 = .ok (.getfield 19, 3) := by decide +kernel
theorem dX11_hidden_63 : decode cX11_hidden 63 = .ok (.getfield 133, 3) := by decide +kernel
theorem dX11_hidden_66 : decode cX11_hidden 66 = .ok (.getfield 198, 3) := by decide +kernel
theorem dX11_hidden_69 : decode cX11_hidden 69 = .ok (.if_icmp .ge 22, 3) := by decide +kernel
theorem dX11_hidden_72 : decode cX11_hidden 72 = .ok (.iload_n 3, 1) := by decide +kernel
theorem dX11_hidden_73 : decode cX11_hidden 73 = .ok (.ifCond .le 18, 3) := by decide +kernel
theorem dX11_hidden_76 : decode cX11_hidden 76 = .ok (.aload_n 0, 1) := by decide +kernel
theorem dX11_hidden_77 : decode cX11_hidden 77 = .ok (.iload 4, 2) := by decide +kernel
theorem dX11_hidden_79 : decode cX11_hidden 79 = .ok (.iload_n 1, 1) := by decide +kernel
theorem dX11_hidden_80 : decode cX11_hidden 80 = .ok (.iload_n 3, 1) := by decide +kernel
theorem dX11_hidden_81 : decode cX11_hidden 81 = .ok (.invokevirtual 245, 3) := by decide +kernel
theorem dX11_hidden_84 : decode cX11_hidden 84 = .ok (.istore_n 3, 1) := by decide +kernel
theorem dX11_hidden_85 : decode cX11_hidden 85 = .ok (.iinc 4 1, 3) := by decide +kernel
theorem dX11_hidden_88 : decode cX11_hidden 88 = .ok (.goto (-31), 3) := by decide +kernel
theorem dX11_hidden_91 : decode cX11_hidden 91 = .ok (.iload_n 2, 1) := by decide +kernel
theorem dX11_hidden_92 : decode cX11_hidden 92 = .ok (.iconst 2, 1) := by decide +kernel
theorem dX11_hidden_93 : decode cX11_hidden 93 = .ok (.if_icmp .ne 7, 3) := by decide +kernel
theorem dX11_hidden_96 : decode cX11_hidden 96 = .ok (.iload_n 3, 1) := by decide +kernel
theorem dX11_hidden_97 : decode cX11_hidden 97 = .ok (.goto 13, 3) := by decide +kernel
theorem dX11_hidden_100 : decode cX11_hidden 100 = .ok (.aload_n 0, 1) := by decide +kernel
theorem dX11_hidden_101 : decode cX11_hidden 101 = .ok (.getfield 63, 3) := by decide +kernel
theorem dX11_hidden_104 : decode cX11_hidden 104 = .ok (.iload_n 2, 1) := by decide +kernel
theorem dX11_hidden_105 : decode cX11_hidden 105 = .ok (.iconst 1, 1) := by decide +kernel
theorem dX11_hidden_106 : decode cX11_hidden 106 = .ok (.iadd, 1) := by decide +kernel
theorem dX11_hidden_107 : decode cX11_hidden 107 = .ok (.invokestatic 164, 3) := by decide +kernel
theorem dX11_hidden_110 : decode cX11_hidden 110 = .ok (.ireturn, 1) := by decide +kernel
theorem dX11_hideAt_0 : decode cX11_hideAt 0 = .ok (.iload_n 3, 1) := by decide +kernel
theorem dX11_hideAt_1 : decode cX11_hideAt 1 = .ok (.istore 4, 2) := by decide +kernel
theorem dX11_hideAt_3 : decode cX11_hideAt 3 = .ok (.iconst 0, 1) := by decide +kernel
theorem dX11_hideAt_4 : decode cX11_hideAt 4 = .ok (.istore 5, 2) := by decide +kernel
theorem dX11_hideAt_6 : decode cX11_hideAt 6 = .ok (.iconst 0, 1) := by decide +kernel
theorem dX11_hideAt_7 : decode cX11_hideAt 7 = .ok (.istore 6, 2) := by decide +kernel
theorem dX11_hideAt_9 : decode cX11_hideAt 9 = .ok (.iload 6, 2) := by decide +kernel
theorem dX11_hideAt_11 : decode cX11_hideAt 11 = .ok (.aload_n 0, 1) := by decide +kernel
theorem dX11_hideAt_12 : decode cX11_hideAt 12 = .ok (.getfield 19, 3) := by decide +kernel
theorem dX11_hideAt_15 : decode cX11_hideAt 15 = .ok (.getfield 123, 3) := by decide +kernel
theorem dX11_hideAt_18 : decode cX11_hideAt 18 = .ok (.if_icmp .ge 87, 3) := by decide +kernel
theorem dX11_hideAt_21 : decode cX11_hideAt 21 = .ok (.iload 4, 2) := by decide +kernel
theorem dX11_hideAt_23 : decode cX11_hideAt 23 = .ok (.ifCond .le 82, 3) := by decide +kernel
theorem dX11_hideAt_26 : decode cX11_hideAt 26 = .ok (.iload 6, 2) := by decide +kernel
theorem dX11_hideAt_28 : decode cX11_hideAt 28 = .ok (.aload_n 0, 1) := by decide +kernel
theorem dX11_hideAt_29 : decode cX11_hideAt 29 = .ok (.getfield 53, 3) := by decide +kernel
theorem dX11_hideAt_32 : decode cX11_hideAt 32 = .ok (.iload_n 1, 1) := by decide +kernel
theorem dX11_hideAt_33 : decode cX11_hideAt 33 = .ok (.invokestatic 164, 3) := by decide +kernel
theorem dX11_hideAt_36 : decode cX11_hideAt 36 = .ok (.if_icmp .eq 63, 3) := by decide +kernel
theorem dX11_hideAt_39 : decode cX11_hideAt 39 = .ok (.iload 5, 2) := by decide +kernel
theorem dX11_hideAt_41 : decode cX11_hideAt 41 = .ok (.ifCond .eq 13, 3) := by decide +kernel
theorem dX11_hideAt_44 : decode cX11_hideAt 44 = .ok (.aload_n 0, 1) := by decide +kernel
theorem dX11_hideAt_45 : decode cX11_hideAt 45 = .ok (.getfield 49, 3) := by decide +kernel
theorem dX11_hideAt_48 : decode cX11_hideAt 48 = .ok (.getfield 359, 3) := by decide +kernel
theorem dX11_hideAt_51 : decode cX11_hideAt 51 = .ok (.ifCond .eq 48, 3) := by decide +kernel
theorem dX11_hideAt_54 : decode cX11_hideAt 54 = .ok (.iconst 1, 1) := by decide +kernel
theorem dX11_hideAt_55 : decode cX11_hideAt 55 = .ok (.istore 5, 2) := by decide +kernel
theorem dX11_hideAt_57 : decode cX11_hideAt 57 = .ok (.aload_n 0, 1) := by decide +kernel
theorem dX11_hideAt_58 : decode cX11_hideAt 58 = .ok (.iload_n 1, 1) := by decide +kernel
theorem dX11_hideAt_59 : decode cX11_hideAt 59 = .ok (.iload 6, 2) := by decide +kernel
theorem dX11_hideAt_61 : decode cX11_hideAt 61 = .ok (.iload_n 2, 1) := by decide +kernel
theorem dX11_hideAt_62 : decode cX11_hideAt 62 = .ok (.iload 4, 2) := by decide +kernel
theorem dX11_hideAt_64 : decode cX11_hideAt 64 = .ok (.invokevirtual 362, 3) := by decide +kernel
theorem dX11_hideAt_67 : decode cX11_hideAt 67 = .ok (.istore 7, 2) := by decide +kernel
theorem dX11_hideAt_69 : decode cX11_hideAt 69 = .ok (.iload 7, 2) := by decide +kernel
theorem dX11_hideAt_71 : decode cX11_hideAt 71 = .ok (.iload 4, 2) := by decide +kernel
theorem dX11_hideAt_73 : decode cX11_hideAt 73 = .ok (.if_icmp .ge 26, 3) := by decide +kernel
theorem dX11_hideAt_76 : decode cX11_hideAt 76 = .ok (.iload 7, 2) := by decide +kernel
theorem dX11_hideAt_78 : decode cX11_hideAt 78 = .ok (.istore 4, 2) := by decide +kernel
theorem dX11_hideAt_80 : decode cX11_hideAt 80 = .ok (.aload_n 0, 1) := by decide +kernel
theorem dX11_hideAt_81 : decode cX11_hideAt 81 = .ok (.getfield 63, 3) := by decide +kernel
theorem dX11_hideAt_84 : decode cX11_hideAt 84 = .ok (.iconst 1, 1) := by decide +kernel
theorem dX11_hideAt_85 : decode cX11_hideAt 85 = .ok (.iload_n 1, 1) := by decide +kernel
theorem dX11_hideAt_86 : decode cX11_hideAt 86 = .ok (.invokestatic 112, 3) := by decide +kernel
theorem dX11_hideAt_89 : decode cX11_hideAt 89 = .ok (.aload_n 0, 1) := by decide +kernel
theorem dX11_hideAt_90 : decode cX11_hideAt 90 = .ok (.getfield 63, 3) := by decide +kernel
theorem dX11_hideAt_93 : decode cX11_hideAt 93 = .ok (.iconst 2, 1) := by decide +kernel
theorem dX11_hideAt_94 : decode cX11_hideAt 94 = .ok (.iload 6, 2) := by decide +kernel
theorem dX11_hideAt_96 : decode cX11_hideAt 96 = .ok (.invokestatic 112, 3) := by decide +kernel
theorem dX11_hideAt_99 : decode cX11_hideAt 99 = .ok (.iinc 6 1, 3) := by decide +kernel
theorem dX11_hideAt_102 : decode cX11_hideAt 102 = .ok (.goto (-93), 3) := by decide +kernel
theorem dX11_hideAt_105 : decode cX11_hideAt 105 = .ok (.iload 4, 2) := by decide +kernel
theorem dX11_hideAt_107 : decode cX11_hideAt 107 = .ok (.ireturn, 1) := by decide +kernel
theorem dX11_honest_0 : decode cX11_honest 0 = .ok (.aload_n 0, 1) := by decide +kernel
theorem dX11_honest_1 : decode cX11_honest 1 = .ok (.getfield 19, 3) := by decide +kernel
theorem dX11_honest_4 : decode cX11_honest 4 = .ok (.iconst 0, 1) := by decide +kernel
theorem dX11_honest_5 : decode cX11_honest 5 = .ok (.aload_n 0, 1) := by decide +kernel
theorem dX11_honest_6 : decode cX11_honest 6 = .ok (.getfield 53, 3) := by decide +kernel
theorem dX11_honest_9 : decode cX11_honest 9 = .ok (.invokevirtual 174, 3) := by decide +kernel
theorem dX11_honest_12 : decode cX11_honest 12 = .ok (.aload_n 0, 1) := by decide +kernel
theorem dX11_honest_13 : decode cX11_honest 13 = .ok (.getfield 19, 3) := by decide +kernel
theorem dX11_honest_16 : decode cX11_honest 16 = .ok (.getfield 133, 3) := by decide +kernel
theorem dX11_honest_19 : decode cX11_honest 19 = .ok (.getfield 178, 3) := by decide +kernel
theorem dX11_honest_22 : decode cX11_honest 22 = .ok (.aload_n 0, 1) := by decide +kernel
theorem dX11_honest_23 : decode cX11_honest 23 = .ok (.getfield 53, 3) := by decide +kernel
theorem dX11_honest_26 : decode cX11_honest 26 = .ok (.aload_n 0, 1) := by decide +kernel
theorem dX11_honest_27 : decode cX11_honest 27 = .ok (.getfield 19, 3) := by decide +kernel
theorem dX11_honest_30 : decode cX11_honest 30 = .ok (.getfield 133, 3) := by decide +kernel
theorem dX11_honest_33 : decode cX11_honest 33 = .ok (.getfield 198, 3) := by decide +kernel
theorem dX11_honest_36 : decode cX11_honest 36 = .ok (.invokestatic 199, 3) := by decide +kernel
theorem dX11_honest_39 : decode cX11_honest 39 = .ok (.istore_n 1, 1) := by decide +kernel
theorem dX11_honest_40 : decode cX11_honest 40 = .ok (.aload_n 0, 1) := by decide +kernel
theorem dX11_honest_41 : decode cX11_honest 41 = .ok (.getfield 53, 3) := by decide +kernel
theorem dX11_honest_44 : decode cX11_honest 44 = .ok (.aload_n 0, 1) := by decide +kernel
theorem dX11_honest_45 : decode cX11_honest 45 = .ok (.getfield 19, 3) := by decide +kernel
theorem dX11_honest_48 : decode cX11_honest 48 = .ok (.getfield 133, 3) := by decide +kernel
theorem dX11_honest_51 : decode cX11_honest 51 = .ok (.getfield 178, 3) := by decide +kernel
theorem dX11_honest_54 : decode cX11_honest 54 = .ok (.invokestatic 203, 3) := by decide +kernel
theorem dX11_honest_57 : decode cX11_honest 57 = .ok (.iload_n 1, 1) := by decide +kernel
theorem dX11_honest_58 : decode cX11_honest 58 = .ok (.invokestatic 214, 3) := by decide +kernel
theorem dX11_honest_61 : decode cX11_honest 61 = .ok (.ireturn, 1) := by decide +kernel
theorem dX11_init_0 : decode cX11_init 0 = .ok (.aload_n 0, 1) := by decide +kernel
theorem dX11_init_1 : decode cX11_init 1 = .ok (.invokespecial 1, 3) := by decide +kernel
theorem dX11_init_4 : decode cX11_init 4 = .ok (.aload_n 0, 1) := by decide +kernel
theorem dX11_init_5 : decode cX11_init 5 = .ok (.new 7, 3) := by decide +kernel
theorem dX11_init_8 : decode cX11_init 8 = .ok (.dup, 1) := by decide +kernel
theorem dX11_init_9 : decode cX11_init 9 = .ok (.invokespecial 9, 3) := by decide +kernel
theorem dX11_init_12 : decode cX11_init 12 = .ok (.putfield 10, 3) := by decide +kernel
theorem dX11_init_15 : decode cX11_init 15 = .ok (.aload_n 0, 1) := by decide +kernel
theorem dX11_init_16 : decode cX11_init 16 = .ok (.new 16, 3) := by decide +kernel
theorem dX11_init_19 : decode cX11_init 19 = .ok (.dup, 1) := by decide +kernel
theorem dX11_init_20 : decode cX11_init 20 = .ok (.invokespecial 18, 3) := by decide +kernel
theorem dX11_init_23 : decode cX11_init 23 = .ok (.putfield 19, 3) := by decide +kernel
theorem dX11_init_26 : decode cX11_init 26 = .ok (.aload_n 0, 1) := by decide +kernel
theorem dX11_init_27 : decode cX11_init 27 = .ok (.new 16, 3) := by decide +kernel
theorem dX11_init_30 : decode cX11_init 30 = .ok (.dup, 1) := by decide +kernel
theorem dX11_init_31 : decode cX11_init 31 = .ok (.invokespecial 18, 3) := by decide +kernel
theorem dX11_init_34 : decode cX11_init 34 = .ok (.putfield 23, 3) := by decide +kernel
theorem dX11_init_37 : decode cX11_init 37 = .ok (.aload_n 0, 1) := by decide +kernel
theorem dX11_init_38 : decode cX11_init 38 = .ok (.iconst 0, 1) := by decide +kernel
theorem dX11_init_39 : decode cX11_init 39 = .ok (.putfield 26, 3) := by decide +kernel
theorem dX11_init_42 : decode cX11_init 42 = .ok (.aload_n 0, 1) := by decide +kernel
theorem dX11_init_43 : decode cX11_init 43 = .ok (.new 30, 3) := by decide +kernel
theorem dX11_init_46 : decode cX11_init 46 = .ok (.dup, 1) := by decide +kernel
theorem dX11_init_47 : decode cX11_init 47 = .ok (.aload_n 0, 1) := by decide +kernel
theorem dX11_init_48 : decode cX11_init 48 = .ok (.getfield 10, 3) := by decide +kernel
theorem dX11_init_51 : decode cX11_init 51 = .ok (.invokespecial 32, 3) := by decide +kernel
theorem dX11_init_54 : decode cX11_init 54 = .ok (.putfield 35, 3) := by decide +kernel
theorem dX11_init_57 : decode cX11_init 57 = .ok (.aload_n 0, 1) := by decide +kernel
theorem dX11_init_58 : decode cX11_init 58 = .ok (.new 39, 3) := by decide +kernel
theorem dX11_init_61 : decode cX11_init 61 = .ok (.dup, 1) := by decide +kernel
theorem dX11_init_62 : decode cX11_init 62 = .ok (.aload_n 0, 1) := by decide +kernel
theorem dX11_init_63 : decode cX11_init 63 = .ok (.getfield 10, 3) := by decide +kernel
theorem dX11_init_66 : decode cX11_init 66 = .ok (.invokespecial 41, 3) := by decide +kernel
theorem dX11_init_69 : decode cX11_init 69 = .ok (.putfield 42, 3) := by decide +kernel
theorem dX11_init_72 : decode cX11_init 72 = .ok (.aload_n 0, 1) := by decide +kernel
theorem dX11_init_73 : decode cX11_init 73 = .ok (.new 46, 3) := by decide +kernel
theorem dX11_init_76 : decode cX11_init 76 = .ok (.dup, 1) := by decide +kernel
theorem dX11_init_77 : decode cX11_init 77 = .ok (.invokespecial 48, 3) := by decide +kernel
theorem dX11_init_80 : decode cX11_init 80 = .ok (.putfield 49, 3) := by decide +kernel
theorem dX11_init_83 : decode cX11_init 83 = .ok (.aload_n 0, 1) := by decide +kernel
theorem dX11_init_84 : decode cX11_init 84 = .ok (.bipush 20, 2) := by decide +kernel
theorem dX11_init_86 : decode cX11_init 86 = .ok (.newarray .int, 2) := by decide +kernel
theorem dX11_init_88 : decode cX11_init 88 = .ok (.putfield 53, 3) := by decide +kernel
theorem dX11_init_91 : decode cX11_init 91 = .ok (.aload_n 0, 1) := by decide +kernel
theorem dX11_init_92 : decode cX11_init 92 = .ok (.bipush 20, 2) := by decide +kernel
theorem dX11_init_94 : decode cX11_init 94 = .ok (.newarray .int, 2) := by decide +kernel
theorem dX11_init_96 : decode cX11_init 96 = .ok (.putfield 57, 3) := by decide +kernel
theorem dX11_init_99 : decode cX11_init 99 = .ok (.aload_n 0, 1) := by decide +kernel
theorem dX11_init_100 : decode cX11_init 100 = .ok (.bipush 10, 2) := by decide +kernel
theorem dX11_init_102 : decode cX11_init 102 = .ok (.newarray .int, 2) := by decide +kernel
theorem dX11_init_104 : decode cX11_init 104 = .ok (.putfield 60, 3) := by decide +kernel
theorem dX11_init_107 : decode cX11_init 107 = .ok (.aload_n 0, 1) := by decide +kernel
theorem dX11_init_108 : decode cX11_init 108 = .ok (.iconst 4, 1) := by decide +kernel
theorem dX11_init_109 : decode cX11_init 109 = .ok (.newarray .int, 2) := by decide +kernel
theorem dX11_init_111 : decode cX11_init 111 = .ok (.putfield 63, 3) := by decide +kernel
theorem dX11_init_114 : decode cX11_init 114 = .ok (.aload_n 0, 1) := by decide +kernel
theorem dX11_init_115 : decode cX11_init 115 = .ok (.new 66, 3) := by decide +kernel
theorem dX11_init_118 : decode cX11_init 118 = .ok (.dup, 1) := by decide +kernel
theorem dX11_init_119 : decode cX11_init 119 = .ok (.invokespecial 68, 3) := by decide +kernel
theorem dX11_init_122 : decode cX11_init 122 = .ok (.putfield 69, 3) := by decide +kernel
theorem dX11_init_125 : decode cX11_init 125 = .ok (.aload_n 0, 1) := by decide +kernel
theorem dX11_init_126 : decode cX11_init 126 = .ok (.new 73, 3) := by decide +kernel
theorem dX11_init_129 : decode cX11_init 129 = .ok (.dup, 1) := by decide +kernel
theorem dX11_init_130 : decode cX11_init 130 = .ok (.invokespecial 75, 3) := by decide +kernel
theorem dX11_init_133 : decode cX11_init 133 = .ok (.putfield 76, 3) := by decide +kernel
theorem dX11_init_136 : decode cX11_init 136 = .ok (.aload_n 0, 1) := by decide +kernel
theorem dX11_init_137 : decode cX11_init 137 = .ok (.new 80, 3) := by decide +kernel
theorem dX11_init_140 : decode cX11_init 140 = .ok (.dup, 1) := by decide +kernel
theorem dX11_init_141 : decode cX11_init 141 = .ok (.invokespecial 82, 3) := by decide +kernel
theorem dX11_init_144 : decode cX11_init 144 = .ok (.putfield 83, 3) := by decide +kernel
theorem dX11_init_147 : decode cX11_init 147 = .ok (.aload_n 0, 1) := by decide +kernel
theorem dX11_init_148 : decode cX11_init 148 = .ok (.new 87, 3) := by decide +kernel
theorem dX11_init_151 : decode cX11_init 151 = .ok (.dup, 1) := by decide +kernel
theorem dX11_init_152 : decode cX11_init 152 = .ok (.invokespecial 89, 3) := by decide +kernel
theorem dX11_init_155 : decode cX11_init 155 = .ok (.putfield 90, 3) := by decide +kernel
theorem dX11_init_158 : decode cX11_init 158 = .ok (.aload_n 0, 1) := by decide +kernel
theorem dX11_init_159 : decode cX11_init 159 = .ok (.new 94, 3) := by decide +kernel
theorem dX11_init_162 : decode cX11_init 162 = .ok (.dup, 1) := by decide +kernel
theorem dX11_init_163 : decode cX11_init 163 = .ok (.invokespecial 96, 3) := by decide +kernel
theorem dX11_init_166 : decode cX11_init 166 = .ok (.putfield 97, 3) := by decide +kernel
theorem dX11_init_169 : decode cX11_init 169 = .ok (.return_, 1) := by decide +kernel
theorem dX11_isIn_0 : decode cX11_isIn 0 = .ok (.iload_n 0, 1) := by decide +kernel
theorem dX11_isIn_1 : decode cX11_isIn 1 = .ok (.iload_n 1, 1) := by decide +kernel
theorem dX11_isIn_2 : decode cX11_isIn 2 = .ok (.ishr, 1) := by decide +kernel
theorem dX11_isIn_3 : decode cX11_isIn 3 = .ok (.iconst 1, 1) := by decide +kernel
theorem dX11_isIn_4 : decode cX11_isIn 4 = .ok (.iand, 1) := by decide +kernel
theorem dX11_isIn_5 : decode cX11_isIn 5 = .ok (.ifCond .eq 7, 3) := by decide +kernel
theorem dX11_isIn_8 : decode cX11_isIn 8 = .ok (.iconst 1, 1) := by decide +kernel
theorem dX11_isIn_9 : decode cX11_isIn 9 = .ok (.goto 4, 3) := by decide +kernel
theorem dX11_isIn_12 : decode cX11_isIn 12 = .ok (.iconst 0, 1) := by decide +kernel
theorem dX11_isIn_13 : decode cX11_isIn 13 = .ok (.ireturn, 1) := by decide +kernel
theorem dX11_isMendedBy_0 : decode cX11_isMendedBy 0 = .ok (.aload_n 0, 1) := by decide +kernel
theorem dX11_isMendedBy_1 : decode cX11_isMendedBy 1 = .ok (.getfield 19, 3) := by decide +kernel
theorem dX11_isMendedBy_4 : decode cX11_isMendedBy 4 = .ok (.getfield 133, 3) := by decide +kernel
theorem dX11_isMendedBy_7 : decode cX11_isMendedBy 7 = .ok (.getfield 178, 3) := by decide +kernel
theorem dX11_isMendedBy_10 : decode cX11_isMendedBy 10 = .ok (.aload_n 0, 1) := by decide +kernel
theorem dX11_isMendedBy_11 : decode cX11_isMendedBy 11 = .ok (.getfield 57, 3) := by decide +kernel
theorem dX11_isMendedBy_14 : decode cX11_isMendedBy 14 = .ok (.invokestatic 203, 3) := by decide +kernel
theorem dX11_isMendedBy_17 : decode cX11_isMendedBy 17 = .ok (.aload_n 0, 1) := by decide +kernel
theorem dX11_isMendedBy_18 : decode cX11_isMendedBy 18 = .ok (.getfield 57, 3) := by decide +kernel
theorem dX11_isMendedBy_21 : decode cX11_isMendedBy 21 = .ok (.iload_n 1, 1) := by decide +kernel
theorem dX11_isMendedBy_22 : decode cX11_isMendedBy 22 = .ok (.aload_n 0, 1) := by decide +kernel
theorem dX11_isMendedBy_23 : decode cX11_isMendedBy 23 = .ok (.getfield 19, 3) := by decide +kernel
theorem dX11_isMendedBy_26 : decode cX11_isMendedBy 26 = .ok (.iload_n 1, 1) := by decide +kernel
theorem dX11_isMendedBy_27 : decode cX11_isMendedBy 27 = .ok (.aload_n 0, 1) := by decide +kernel
theorem dX11_isMendedBy_28 : decode cX11_isMendedBy 28 = .ok (.getfield 57, 3) := by decide +kernel
theorem dX11_isMendedBy_31 : decode cX11_isMendedBy 31 = .ok (.invokevirtual 181, 3) := by decide +kernel
theorem dX11_isMendedBy_34 : decode cX11_isMendedBy 34 = .ok (.invokestatic 112, 3) := by decide +kernel
theorem dX11_isMendedBy_37 : decode cX11_isMendedBy 37 = .ok (.iconst 0, 1) := by decide +kernel
theorem dX11_isMendedBy_38 : decode cX11_isMendedBy 38 = .ok (.istore_n 2, 1) := by decide +kernel
theorem dX11_isMendedBy_39 : decode cX11_isMendedBy 39 = .ok (.iload_n 2, 1) := by decide +kernel
theorem dX11_isMendedBy_40 : decode cX11_isMendedBy 40 = .ok (.aload_n 0, 1) := by decide +kernel
theorem dX11_isMendedBy_41 : decode cX11_isMendedBy 41 = .ok (.getfield 19, 3) := by decide +kernel
theorem dX11_isMendedBy_44 : decode cX11_isMendedBy 44 = .ok (.getfield 133, 3) := by decide +kernel
theorem dX11_isMendedBy_47 : decode cX11_isMendedBy 47 = .ok (.getfield 198, 3) := by decide +kernel
theorem dX11_isMendedBy_50 : decode cX11_isMendedBy 50 = .ok (.if_icmp .ge 34, 3) := by decide +kernel
theorem dX11_isMendedBy_53 : decode cX11_isMendedBy 53 = .ok (.aload_n 0, 1) := by decide +kernel
theorem dX11_isMendedBy_54 : decode cX11_isMendedBy 54 = .ok (.getfield 57, 3) := by decide +kernel
theorem dX11_isMendedBy_57 : decode cX11_isMendedBy 57 = .ok (.iload_n 2, 1) := by decide +kernel
theorem dX11_isMendedBy_58 : decode cX11_isMendedBy 58 = .ok (.invokestatic 164, 3) := by decide +kernel
theorem dX11_isMendedBy_61 : decode cX11_isMendedBy 61 = .ok (.aload_n 0, 1) := by decide +kernel
theorem dX11_isMendedBy_62 : decode cX11_isMendedBy 62 = .ok (.getfield 19, 3) := by decide +kernel
theorem dX11_isMendedBy_65 : decode cX11_isMendedBy 65 = .ok (.iload_n 2, 1) := by decide +kernel
theorem dX11_isMendedBy_66 : decode cX11_isMendedBy 66 = .ok (.aload_n 0, 1) := by decide +kernel
theorem dX11_isMendedBy_67 : decode cX11_isMendedBy 67 = .ok (.getfield 57, 3) := by decide +kernel
theorem dX11_isMendedBy_70 : decode cX11_isMendedBy 70 = .ok (.invokevirtual 181, 3) := by decide +kernel
theorem dX11_isMendedBy_73 : decode cX11_isMendedBy 73 = .ok (.if_icmp .eq 5, 3) := by decide +kernel
theorem dX11_isMendedBy_76 : decode cX11_isMendedBy 76 = .ok (.iconst 0, 1) := by decide +kernel
theorem dX11_isMendedBy_77 : decode cX11_isMendedBy 77 = .ok (.ireturn, 1) := by decide +kernel
theorem dX11_isMendedBy_78 : decode cX11_isMendedBy 78 = .ok (.iinc 2 1, 3) := by decide +kernel
theorem dX11_isMendedBy_81 : decode cX11_isMendedBy 81 = .ok (.goto (-42), 3) := by decide +kernel
theorem dX11_isMendedBy_84 : decode cX11_isMendedBy 84 = .ok (.iconst 1, 1) := by decide +kernel
theorem dX11_isMendedBy_85 : decode cX11_isMendedBy 85 = .ok (.ireturn, 1) := by decide +kernel
theorem dX11_isPupil_0 : decode cX11_isPupil 0 = .ok (.iload_n 0, 1) := by decide +kernel
theorem dX11_isPupil_1 : decode cX11_isPupil 1 = .ok (.ifCond .lt 13, 3) := by decide +kernel
theorem dX11_isPupil_4 : decode cX11_isPupil 4 = .ok (.iload_n 0, 1) := by decide +kernel
theorem dX11_isPupil_5 : decode cX11_isPupil 5 = .ok (.bipush 8, 2) := by decide +kernel
theorem dX11_isPupil_7 : decode cX11_isPupil 7 = .ok (.if_icmp .ge 7, 3) := by decide +kernel
theorem dX11_isPupil_10 : decode cX11_isPupil 10 = .ok (.iconst 1, 1) := by decide +kernel
theorem dX11_isPupil_11 : decode cX11_isPupil 11 = .ok (.goto 4, 3) := by decide +kernel
theorem dX11_isPupil_14 : decode cX11_isPupil 14 = .ok (.iconst 0, 1) := by decide +kernel
theorem dX11_isPupil_15 : decode cX11_isPupil 15 = .ok (.ireturn, 1) := by decide +kernel
theorem dX11_keep_0 : decode cX11_keep 0 = .ok (.aload_n 0, 1) := by decide +kernel
theorem dX11_keep_1 : decode cX11_keep 1 = .ok (.getfield 23, 3) := by decide +kernel
theorem dX11_keep_4 : decode cX11_keep 4 = .ok (.aload_n 0, 1) := by decide +kernel
theorem dX11_keep_5 : decode cX11_keep 5 = .ok (.getfield 19, 3) := by decide +kernel
theorem dX11_keep_8 : decode cX11_keep 8 = .ok (.invokevirtual 332, 3) := by decide +kernel
theorem dX11_keep_11 : decode cX11_keep 11 = .ok (.aload_n 0, 1) := by decide +kernel
theorem dX11_keep_12 : decode cX11_keep 12 = .ok (.iconst 1, 1) := by decide +kernel
theorem dX11_keep_13 : decode cX11_keep 13 = .ok (.putfield 26, 3) := by decide +kernel
theorem dX11_keep_16 : decode cX11_keep 16 = .ok (.aload_n 0, 1) := by decide +kernel
theorem dX11_keep_17 : decode cX11_keep 17 = .ok (.getfield 19, 3) := by decide +kernel
theorem dX11_keep_20 : decode cX11_keep 20 = .ok (.getfield 133, 3) := by decide +kernel
theorem dX11_keep_23 : decode cX11_keep 23 = .ok (.getfield 198, 3) := by decide +kernel
theorem dX11_keep_26 : decode cX11_keep 26 = .ok (.ireturn, 1) := by decide +kernel
theorem dX11_law_0 : decode cX11_law 0 = .ok (.iload_n 1, 1) := by decide +kernel
theorem dX11_law_1 : decode cX11_law 1 = .ok (.iconst 1, 1) := by decide +kernel
theorem dX11_law_2 : decode cX11_law 2 = .ok (.if_icmp .lt 21, 3) := by decide +kernel
theorem dX11_law_5 : decode cX11_law 5 = .ok (.iload_n 1, 1) := by decide +kernel
theorem dX11_law_6 : decode cX11_law 6 = .ok (.sipush 200, 3) := by decide +kernel
theorem dX11_law_9 : decode cX11_law 9 = .ok (.if_icmp .gt 14, 3) := by decide +kernel
theorem dX11_law_12 : decode cX11_law 12 = .ok (.iload_n 1, 1) := by decide +kernel
theorem dX11_law_13 : decode cX11_law 13 = .ok (.aload_n 0, 1) := by decide +kernel
theorem dX11_law_14 : decode cX11_law 14 = .ok (.getfield 10, 3) := by decide +kernel
theorem dX11_law_17 : decode cX11_law 17 = .ok (.getfield 116, 3) := by decide +kernel
theorem dX11_law_20 : decode cX11_law 20 = .ok (.if_icmp .le 5, 3) := by decide +kernel
theorem dX11_law_23 : decode cX11_law 23 = .ok (.iconst (-1), 1) := by decide +kernel
theorem dX11_law_24 : decode cX11_law 24 = .ok (.ireturn, 1) := by decide +kernel
theorem dX11_law_25 : decode cX11_law 25 = .ok (.aload_n 0, 1) := by decide +kernel
theorem dX11_law_26 : decode cX11_law 26 = .ok (.getfield 42, 3) := by decide +kernel
theorem dX11_law_29 : decode cX11_law 29 = .ok (.iload_n 1, 1) := by decide +kernel
theorem dX11_law_30 : decode cX11_law 30 = .ok (.invokevirtual 146, 3) := by decide +kernel
theorem dX11_law_33 : decode cX11_law 33 = .ok (.istore_n 2, 1) := by decide +kernel
theorem dX11_law_34 : decode cX11_law 34 = .ok (.aload_n 0, 1) := by decide +kernel
theorem dX11_law_35 : decode cX11_law 35 = .ok (.getfield 10, 3) := by decide +kernel
theorem dX11_law_38 : decode cX11_law 38 = .ok (.invokevirtual 130, 3) := by decide +kernel
theorem dX11_law_41 : decode cX11_law 41 = .ok (.iload_n 2, 1) := by decide +kernel
theorem dX11_law_42 : decode cX11_law 42 = .ok (.ifCond .le 17, 3) := by decide +kernel
theorem dX11_law_45 : decode cX11_law 45 = .ok (.aload_n 0, 1) := by decide +kernel
theorem dX11_law_46 : decode cX11_law 46 = .ok (.getfield 49, 3) := by decide +kernel
theorem dX11_law_49 : decode cX11_law 49 = .ok (.aload_n 0, 1) := by decide +kernel
theorem dX11_law_50 : decode cX11_law 50 = .ok (.getfield 42, 3) := by decide +kernel
theorem dX11_law_53 : decode cX11_law 53 = .ok (.getfield 150, 3) := by decide +kernel
theorem dX11_law_56 : decode cX11_law 56 = .ok (.invokevirtual 152, 3) := by decide +kernel
theorem dX11_law_59 : decode cX11_law 59 = .ok (.iload_n 2, 1) := by decide +kernel
theorem dX11_law_60 : decode cX11_law 60 = .ok (.ireturn, 1) := by decide +kernel
theorem dX11_line_0 : decode cX11_line 0 = .ok (.aload_n 0, 1) := by decide +kernel
theorem dX11_line_1 : decode cX11_line 1 = .ok (.getfield 19, 3) := by decide +kernel
theorem dX11_line_4 : decode cX11_line 4 = .ok (.getfield 133, 3) := by decide +kernel
theorem dX11_line_7 : decode cX11_line 7 = .ok (.iload_n 1, 1) := by decide +kernel
theorem dX11_line_8 : decode cX11_line 8 = .ok (.invokevirtual 155, 3) := by decide +kernel
theorem dX11_line_11 : decode cX11_line 11 = .ok (.ifCond .ne 5, 3) := by decide +kernel
theorem dX11_line_14 : decode cX11_line 14 = .ok (.iconst (-1), 1) := by decide +kernel
theorem dX11_line_15 : decode cX11_line 15 = .ok (.ireturn, 1) := by decide +kernel
theorem dX11_line_16 : decode cX11_line 16 = .ok (.iload_n 2, 1) := by decide +kernel
theorem dX11_line_17 : decode cX11_line 17 = .ok (.tableswitch 192 0 8 #[51, 60, 75, 90, 105, 126, 145, 160, 175], 51) := by decide +kernel
theorem dX11_line_68 : decode cX11_line 68 = .ok (.aload_n 0, 1) := by decide +kernel
theorem dX11_line_69 : decode cX11_line 69 = .ok (.getfield 19, 3) := by decide +kernel
theorem dX11_line_72 : decode cX11_line 72 = .ok (.iload_n 1, 1) := by decide +kernel
theorem dX11_line_73 : decode cX11_line 73 = .ok (.invokevirtual 158, 3) := by decide +kernel
theorem dX11_line_76 : decode cX11_line 76 = .ok (.ireturn, 1) := by decide +kernel
theorem dX11_line_77 : decode cX11_line 77 = .ok (.aload_n 0, 1) := by decide +kernel
theorem dX11_line_78 : decode cX11_line 78 = .ok (.getfield 19, 3) := by decide +kernel
theorem dX11_line_81 : decode cX11_line 81 = .ok (.getfield 133, 3) := by decide +kernel
theorem dX11_line_84 : decode cX11_line 84 = .ok (.getfield 161, 3) := by decide +kernel
theorem dX11_line_87 : decode cX11_line 87 = .ok (.iload_n 1, 1) := by decide +kernel
theorem dX11_line_88 : decode cX11_line 88 = .ok (.invokestatic 164, 3) := by decide +kernel
theorem dX11_line_91 : decode cX11_line 91 = .ok (.ireturn, 1) := by decide +kernel
theorem dX11_line_92 : decode cX11_line 92 = .ok (.aload_n 0, 1) := by decide +kernel
theorem dX11_line_93 : decode cX11_line 93 = .ok (.getfield 19, 3) := by decide +kernel
theorem dX11_line_96 : decode cX11_line 96 = .ok (.getfield 133, 3) := by decide +kernel
theorem dX11_line_99 : decode cX11_line 99 = .ok (.getfield 168, 3) := by decide +kernel
theorem dX11_line_102 : decode cX11_line 102 = .ok (.iload_n 1, 1) := by decide +kernel
theorem dX11_line_103 : decode cX11_line 103 = .ok (.invokestatic 164, 3) := by decide +kernel
theorem dX11_line_106 : decode cX11_line 106 = .ok (.ireturn, 1) := by decide +kernel
theorem dX11_line_107 : decode cX11_line 107 = .ok (.aload_n 0, 1) := by decide +kernel
theorem dX11_line_108 : decode cX11_line 108 = .ok (.getfield 19, 3) := by decide +kernel
theorem dX11_line_111 : decode cX11_line 111 = .ok (.getfield 133, 3) := by decide +kernel
theorem dX11_line_114 : decode cX11_line 114 = .ok (.getfield 171, 3) := by decide +kernel
theorem dX11_line_117 : decode cX11_line 117 = .ok (.iload_n 1, 1) := by decide +kernel
theorem dX11_line_118 : decode cX11_line 118 = .ok (.invokestatic 164, 3) := by decide +kernel
theorem dX11_line_121 : decode cX11_line 121 = .ok (.ireturn, 1) := by decide +kernel
theorem dX11_line_122 : decode cX11_line 122 = .ok (.aload_n 0, 1) := by decide +kernel
theorem dX11_line_123 : decode cX11_line 123 = .ok (.getfield 19, 3) := by decide +kernel
theorem dX11_line_126 : decode cX11_line 126 = .ok (.iconst 0, 1) := by decide +kernel
theorem dX11_line_127 : decode cX11_line 127 = .ok (.aload_n 0, 1) := by decide +kernel
theorem dX11_line_128 : decode cX11_line 128 = .ok (.getfield 53, 3) := by decide +kernel
theorem dX11_line_131 : decode cX11_line 131 = .ok (.invokevirtual 174, 3) := by decide +kernel
theorem dX11_line_134 : decode cX11_line 134 = .ok (.aload_n 0, 1) := by decide +kernel
theorem dX11_line_135 : decode cX11_line 135 = .ok (.getfield 53, 3) := by decide +kernel
theorem dX11_line_138 : decode cX11_line 138 = .ok (.iload_n 1, 1) := by decide +kernel
theorem dX11_line_139 : decode cX11_line 139 = .ok (.invokestatic 164, 3) := by decide +kernel
theorem dX11_line_142 : decode cX11_line 142 = .ok (.ireturn, 1) := by decide +kernel
theorem dX11_line_143 : decode cX11_line 143 = .ok (.aload_n 0, 1) := by decide +kernel
theorem dX11_line_144 : decode cX11_line 144 = .ok (.getfield 19, 3) := by decide +kernel
theorem dX11_line_147 : decode cX11_line 147 = .ok (.iload_n 1, 1) := by decide +kernel
theorem dX11_line_148 : decode cX11_line 148 = .ok (.aload_n 0, 1) := by decide +kernel
theorem dX11_line_149 : decode cX11_line 149 = .ok (.getfield 19, 3) := by decide +kernel
theorem dX11_line_152 : decode cX11_line 152 = .ok (.getfield 133, 3) := by decide +kernel
theorem dX11_line_155 : decode cX11_line 155 = .ok (.getfield 178, 3) := by decide +kernel
theorem dX11_line_158 : decode cX11_line 158 = .ok (.invokevirtual 181, 3) := by decide +kernel
theorem dX11_line_161 : decode cX11_line 161 = .ok (.ireturn, 1) := by decide +kernel
theorem dX11_line_162 : decode cX11_line 162 = .ok (.aload_n 0, 1) := by decide +kernel
theorem dX11_line_163 : decode cX11_line 163 = .ok (.getfield 19, 3) := by decide +kernel
theorem dX11_line_166 : decode cX11_line 166 = .ok (.getfield 133, 3) := by decide +kernel
theorem dX11_line_169 : decode cX11_line 169 = .ok (.getfield 185, 3) := by decide +kernel
theorem dX11_line_172 : decode cX11_line 172 = .ok (.iload_n 1, 1) := by decide +kernel
theorem dX11_line_173 : decode cX11_line 173 = .ok (.invokestatic 164, 3) := by decide +kernel
theorem dX11_line_176 : decode cX11_line 176 = .ok (.ireturn, 1) := by decide +kernel
theorem dX11_line_177 : decode cX11_line 177 = .ok (.aload_n 0, 1) := by decide +kernel
theorem dX11_line_178 : decode cX11_line 178 = .ok (.getfield 19, 3) := by decide +kernel
theorem dX11_line_181 : decode cX11_line 181 = .ok (.getfield 133, 3) := by decide +kernel
theorem dX11_line_184 : decode cX11_line 184 = .ok (.getfield 188, 3) := by decide +kernel
theorem dX11_line_187 : decode cX11_line 187 = .ok (.iload_n 1, 1) := by decide +kernel
theorem dX11_line_188 : decode cX11_line 188 = .ok (.invokestatic 164, 3) := by decide +kernel
theorem dX11_line_191 : decode cX11_line 191 = .ok (.ireturn, 1) := by decide +kernel
theorem dX11_line_192 : decode cX11_line 192 = .ok (.aload_n 0, 1) := by decide +kernel
theorem dX11_line_193 : decode cX11_line 193 = .ok (.getfield 19, 3) := by decide +kernel
theorem dX11_line_196 : decode cX11_line 196 = .ok (.iload_n 1, 1) := by decide +kernel
theorem dX11_line_197 : decode cX11_line 197 = .ok (.invokevirtual 191, 3) := by decide +kernel
theorem dX11_line_200 : decode cX11_line 200 = .ok (.ifCond .eq 7, 3) := by decide +kernel
theorem dX11_line_203 : decode cX11_line 203 = .ok (.iconst 1, 1) := by decide +kernel
theorem dX11_line_204 : decode cX11_line 204 = .ok (.goto 4, 3) := by decide +kernel
theorem dX11_line_207 : decode cX11_line 207 = .ok (.iconst 0, 1) := by decide +kernel
theorem dX11_line_208 : decode cX11_line 208 = .ok (.ireturn, 1) := by decide +kernel
theorem dX11_line_209 : decode cX11_line 209 = .ok (.iconst (-1), 1) := by decide +kernel
theorem dX11_line_210 : decode cX11_line 210 = .ok (.ireturn, 1) := by decide +kernel
theorem dX11_linesReadBy_0 : decode cX11_linesReadBy 0 = .ok (.iconst 0, 1) := by decide +kernel
theorem dX11_linesReadBy_1 : decode cX11_linesReadBy 1 = .ok (.istore_n 2, 1) := by decide +kernel
theorem dX11_linesReadBy_2 : decode cX11_linesReadBy 2 = .ok (.iconst 0, 1) := by decide +kernel
theorem dX11_linesReadBy_3 : decode cX11_linesReadBy 3 = .ok (.istore_n 3, 1) := by decide +kernel
theorem dX11_linesReadBy_4 : decode cX11_linesReadBy 4 = .ok (.iload_n 3, 1) := by decide +kernel
theorem dX11_linesReadBy_5 : decode cX11_linesReadBy 5 = .ok (.aload_n 0, 1) := by decide +kernel
theorem dX11_linesReadBy_6 : decode cX11_linesReadBy 6 = .ok (.getfield 19, 3) := by decide +kernel
theorem dX11_linesReadBy_9 : decode cX11_linesReadBy 9 = .ok (.getfield 133, 3) := by decide +kernel
theorem dX11_linesReadBy_12 : decode cX11_linesReadBy 12 = .ok (.getfield 198, 3) := by decide +kernel
theorem dX11_linesReadBy_15 : decode cX11_linesReadBy 15 = .ok (.if_icmp .ge 47, 3) := by decide +kernel
theorem dX11_linesReadBy_18 : decode cX11_linesReadBy 18 = .ok (.aload_n 0, 1) := by decide +kernel
theorem dX11_linesReadBy_19 : decode cX11_linesReadBy 19 = .ok (.getfield 49, 3) := by decide +kernel
theorem dX11_linesReadBy_22 : decode cX11_linesReadBy 22 = .ok (.aload_n 0, 1) := by decide +kernel
theorem dX11_linesReadBy_23 : decode cX11_linesReadBy 23 = .ok (.getfield 19, 3) := by decide +kernel
theorem dX11_linesReadBy_26 : decode cX11_linesReadBy 26 = .ok (.iload_n 3, 1) := by decide +kernel
theorem dX11_linesReadBy_27 : decode cX11_linesReadBy 27 = .ok (.aload_n 0, 1) := by decide +kernel
theorem dX11_linesReadBy_28 : decode cX11_linesReadBy 28 = .ok (.getfield 19, 3) := by decide +kernel
theorem dX11_linesReadBy_31 : decode cX11_linesReadBy 31 = .ok (.iload_n 3, 1) := by decide +kernel
theorem dX11_linesReadBy_32 : decode cX11_linesReadBy 32 = .ok (.invokevirtual 158, 3) := by decide +kernel
theorem dX11_linesReadBy_35 : decode cX11_linesReadBy 35 = .ok (.iload_n 1, 1) := by decide +kernel
theorem dX11_linesReadBy_36 : decode cX11_linesReadBy 36 = .ok (.invokevirtual 348, 3) := by decide +kernel
theorem dX11_linesReadBy_39 : decode cX11_linesReadBy 39 = .ok (.aload_n 0, 1) := by decide +kernel
theorem dX11_linesReadBy_40 : decode cX11_linesReadBy 40 = .ok (.getfield 49, 3) := by decide +kernel
theorem dX11_linesReadBy_43 : decode cX11_linesReadBy 43 = .ok (.invokevirtual 352, 3) := by decide +kernel
theorem dX11_linesReadBy_46 : decode cX11_linesReadBy 46 = .ok (.ifCond .eq 10, 3) := by decide +kernel
theorem dX11_linesReadBy_49 : decode cX11_linesReadBy 49 = .ok (.iload_n 2, 1) := by decide +kernel
theorem dX11_linesReadBy_50 : decode cX11_linesReadBy 50 = .ok (.iload_n 3, 1) := by decide +kernel
theorem dX11_linesReadBy_51 : decode cX11_linesReadBy 51 = .ok (.invokestatic 229, 3) := by decide +kernel
theorem dX11_linesReadBy_54 : decode cX11_linesReadBy 54 = .ok (.ior, 1) := by decide +kernel
theorem dX11_linesReadBy_55 : decode cX11_linesReadBy 55 = .ok (.istore_n 2, 1) := by decide +kernel
theorem dX11_linesReadBy_56 : decode cX11_linesReadBy 56 = .ok (.iinc 3 1, 3) := by decide +kernel
theorem dX11_linesReadBy_59 : decode cX11_linesReadBy 59 = .ok (.goto (-55), 3) := by decide +kernel
theorem dX11_linesReadBy_62 : decode cX11_linesReadBy 62 = .ok (.iload_n 2, 1) := by decide +kernel
theorem dX11_linesReadBy_63 : decode cX11_linesReadBy 63 = .ok (.ireturn, 1) := by decide +kernel
theorem dX11_mended_0 : decode cX11_mended 0 = .ok (.iload_n 1, 1) := by decide +kernel
theorem dX11_mended_1 : decode cX11_mended 1 = .ok (.ifCond .lt 18, 3) := by decide +kernel
theorem dX11_mended_4 : decode cX11_mended 4 = .ok (.iload_n 1, 1) := by decide +kernel
theorem dX11_mended_5 : decode cX11_mended 5 = .ok (.iconst 2, 1) := by decide +kernel
theorem dX11_mended_6 : decode cX11_mended 6 = .ok (.if_icmp .gt 13, 3) := by decide +kernel
theorem dX11_mended_9 : decode cX11_mended 9 = .ok (.aload_n 0, 1) := by decide +kernel
theorem dX11_mended_10 : decode cX11_mended 10 = .ok (.getfield 19, 3) := by decide +kernel
theorem dX11_mended_13 : decode cX11_mended 13 = .ok (.invokevirtual 194, 3) := by decide +kernel
theorem dX11_mended_16 : decode cX11_mended 16 = .ok (.ifCond .ne 5, 3) := by decide +kernel
theorem dX11_mended_19 : decode cX11_mended 19 = .ok (.iconst (-1), 1) := by decide +kernel
theorem dX11_mended_20 : decode cX11_mended 20 = .ok (.ireturn, 1) := by decide +kernel
theorem dX11_mended_21 : decode cX11_mended 21 = .ok (.aload_n 0, 1) := by decide +kernel
theorem dX11_mended_22 : decode cX11_mended 22 = .ok (.invokevirtual 219, 3) := by decide +kernel
theorem dX11_mended_25 : decode cX11_mended 25 = .ok (.iconst 0, 1) := by decide +kernel
theorem dX11_mended_26 : decode cX11_mended 26 = .ok (.istore_n 2, 1) := by decide +kernel
theorem dX11_mended_27 : decode cX11_mended 27 = .ok (.iload_n 2, 1) := by decide +kernel
theorem dX11_mended_28 : decode cX11_mended 28 = .ok (.aload_n 0, 1) := by decide +kernel
theorem dX11_mended_29 : decode cX11_mended 29 = .ok (.getfield 19, 3) := by decide +kernel
theorem dX11_mended_32 : decode cX11_mended 32 = .ok (.getfield 133, 3) := by decide +kernel
theorem dX11_mended_35 : decode cX11_mended 35 = .ok (.getfield 198, 3) := by decide +kernel
theorem dX11_mended_38 : decode cX11_mended 38 = .ok (.if_icmp .ge 53, 3) := by decide +kernel
theorem dX11_mended_41 : decode cX11_mended 41 = .ok (.aload_n 0, 1) := by decide +kernel
theorem dX11_mended_42 : decode cX11_mended 42 = .ok (.getfield 19, 3) := by decide +kernel
theorem dX11_mended_45 : decode cX11_mended 45 = .ok (.iload_n 2, 1) := by decide +kernel
theorem dX11_mended_46 : decode cX11_mended 46 = .ok (.invokevirtual 191, 3) := by decide +kernel
theorem dX11_mended_49 : decode cX11_mended 49 = .ok (.ifCond .eq 36, 3) := by decide +kernel
theorem dX11_mended_52 : decode cX11_mended 52 = .ok (.aload_n 0, 1) := by decide +kernel
theorem dX11_mended_53 : decode cX11_mended 53 = .ok (.iload_n 2, 1) := by decide +kernel
theorem dX11_mended_54 : decode cX11_mended 54 = .ok (.invokevirtual 222, 3) := by decide +kernel
theorem dX11_mended_57 : decode cX11_mended 57 = .ok (.ifCond .eq 28, 3) := by decide +kernel
theorem dX11_mended_60 : decode cX11_mended 60 = .ok (.aload_n 0, 1) := by decide +kernel
theorem dX11_mended_61 : decode cX11_mended 61 = .ok (.iload_n 2, 1) := by decide +kernel
theorem dX11_mended_62 : decode cX11_mended 62 = .ok (.aload_n 0, 1) := by decide +kernel
theorem dX11_mended_63 : decode cX11_mended 63 = .ok (.getfield 19, 3) := by decide +kernel
theorem dX11_mended_66 : decode cX11_mended 66 = .ok (.iload_n 2, 1) := by decide +kernel
theorem dX11_mended_67 : decode cX11_mended 67 = .ok (.aload_n 0, 1) := by decide +kernel
theorem dX11_mended_68 : decode cX11_mended 68 = .ok (.getfield 19, 3) := by decide +kernel
theorem dX11_mended_71 : decode cX11_mended 71 = .ok (.getfield 133, 3) := by decide +kernel
theorem dX11_mended_74 : decode cX11_mended 74 = .ok (.getfield 178, 3) := by decide +kernel
theorem dX11_mended_77 : decode cX11_mended 77 = .ok (.invokevirtual 181, 3) := by decide +kernel
theorem dX11_mended_80 : decode cX11_mended 80 = .ok (.bipush (-2), 2) := by decide +kernel
theorem dX11_mended_82 : decode cX11_mended 82 = .ok (.invokevirtual 225, 3) := by decide +kernel
theorem dX11_mended_85 : decode cX11_mended 85 = .ok (.iinc 2 1, 3) := by decide +kernel
theorem dX11_mended_88 : decode cX11_mended 88 = .ok (.goto (-61), 3) := by decide +kernel
theorem dX11_mended_91 : decode cX11_mended 91 = .ok (.aload_n 0, 1) := by decide +kernel
theorem dX11_mended_92 : decode cX11_mended 92 = .ok (.getfield 63, 3) := by decide +kernel
theorem dX11_mended_95 : decode cX11_mended 95 = .ok (.iload_n 1, 1) := by decide +kernel
theorem dX11_mended_96 : decode cX11_mended 96 = .ok (.invokestatic 164, 3) := by decide +kernel
theorem dX11_mended_99 : decode cX11_mended 99 = .ok (.ireturn, 1) := by decide +kernel
theorem dX11_minutesFor_0 : decode cX11_minutesFor 0 = .ok (.iconst 0, 1) := by decide +kernel
theorem dX11_minutesFor_1 : decode cX11_minutesFor 1 = .ok (.istore_n 3, 1) := by decide +kernel
theorem dX11_minutesFor_2 : decode cX11_minutesFor 2 = .ok (.iconst 0, 1) := by decide +kernel
theorem dX11_minutesFor_3 : decode cX11_minutesFor 3 = .ok (.istore 4, 2) := by decide +kernel
theorem dX11_minutesFor_5 : decode cX11_minutesFor 5 = .ok (.iload 4, 2) := by decide +kernel
theorem dX11_minutesFor_7 : decode cX11_minutesFor 7 = .ok (.aload_n 0, 1) := by decide +kernel
theorem dX11_minutesFor_8 : decode cX11_minutesFor 8 = .ok (.getfield 19, 3) := by decide +kernel
theorem dX11_minutesFor_11 : decode cX11_minutesFor 11 = .ok (.getfield 133, 3) := by decide +kernel
theorem dX11_minutesFor_14 : decode cX11_minutesFor 14 = .ok (.getfield 198, 3) := by decide +kernel
theorem dX11_minutesFor_17 : decode cX11_minutesFor 17 = .ok (.if_icmp .ge 30, 3) := by decide +kernel
theorem dX11_minutesFor_20 : decode cX11_minutesFor 20 = .ok (.iload_n 2, 1) := by decide +kernel
theorem dX11_minutesFor_21 : decode cX11_minutesFor 21 = .ok (.iload 4, 2) := by decide +kernel
theorem dX11_minutesFor_23 : decode cX11_minutesFor 23 = .ok (.invokestatic 252, 3) := by decide +kernel
theorem dX11_minutesFor_26 : decode cX11_minutesFor 26 = .ok (.ifCond .eq 15, 3) := by decide +kernel
theorem dX11_minutesFor_29 : decode cX11_minutesFor 29 = .ok (.iload_n 3, 1) := by decide +kernel
theorem dX11_minutesFor_30 : decode cX11_minutesFor 30 = .ok (.aload_n 0, 1) := by decide +kernel
theorem dX11_minutesFor_31 : decode cX11_minutesFor 31 = .ok (.bipush 116, 2) := by decide +kernel
theorem dX11_minutesFor_33 : decode cX11_minutesFor 33 = .ok (.iload 4, 2) := by decide +kernel
theorem dX11_minutesFor_35 : decode cX11_minutesFor 35 = .ok (.iload_n 1, 1) := by decide +kernel
theorem dX11_minutesFor_36 : decode cX11_minutesFor 36 = .ok (.invokevirtual 285, 3) := by decide +kernel
theorem dX11_minutesFor_39 : decode cX11_minutesFor 39 = .ok (.iadd, 1) := by decide +kernel
theorem dX11_minutesFor_40 : decode cX11_minutesFor 40 = .ok (.istore_n 3, 1) := by decide +kernel
theorem dX11_minutesFor_41 : decode cX11_minutesFor 41 = .ok (.iinc 4 1, 3) := by decide +kernel
theorem dX11_minutesFor_44 : decode cX11_minutesFor 44 = .ok (.goto (-39), 3) := by decide +kernel
theorem dX11_minutesFor_47 : decode cX11_minutesFor 47 = .ok (.iload_n 3, 1) := by decide +kernel
theorem dX11_minutesFor_48 : decode cX11_minutesFor 48 = .ok (.ireturn, 1) := by decide +kernel
theorem dX11_modulus_0 : decode cX11_modulus 0 = .ok (.iload_n 1, 1) := by decide +kernel
theorem dX11_modulus_1 : decode cX11_modulus 1 = .ok (.iconst 2, 1) := by decide +kernel
theorem dX11_modulus_2 : decode cX11_modulus 2 = .ok (.if_icmp .lt 9, 3) := by decide +kernel
theorem dX11_modulus_5 : decode cX11_modulus 5 = .ok (.iload_n 1, 1) := by decide +kernel
theorem dX11_modulus_6 : decode cX11_modulus 6 = .ok (.bipush 97, 2) := by decide +kernel
theorem dX11_modulus_8 : decode cX11_modulus 8 = .ok (.if_icmp .le 5, 3) := by decide +kernel
theorem dX11_modulus_11 : decode cX11_modulus 11 = .ok (.iconst 0, 1) := by decide +kernel
theorem dX11_modulus_12 : decode cX11_modulus 12 = .ok (.ireturn, 1) := by decide +kernel
theorem dX11_modulus_13 : decode cX11_modulus 13 = .ok (.aload_n 0, 1) := by decide +kernel
theorem dX11_modulus_14 : decode cX11_modulus 14 = .ok (.getfield 19, 3) := by decide +kernel
theorem dX11_modulus_17 : decode cX11_modulus 17 = .ok (.iload_n 1, 1) := by decide +kernel
theorem dX11_modulus_18 : decode cX11_modulus 18 = .ok (.invokevirtual 101, 3) := by decide +kernel
theorem dX11_modulus_21 : decode cX11_modulus 21 = .ok (.iconst 1, 1) := by decide +kernel
theorem dX11_modulus_22 : decode cX11_modulus 22 = .ok (.ireturn, 1) := by decide +kernel
theorem dX11_noteFound_0 : decode cX11_noteFound 0 = .ok (.aload_n 0, 1) := by decide +kernel
theorem dX11_noteFound_1 : decode cX11_noteFound 1 = .ok (.getfield 63, 3) := by decide +kernel
theorem dX11_noteFound_4 : decode cX11_noteFound 4 = .ok (.iconst 0, 1) := by decide +kernel
theorem dX11_noteFound_5 : decode cX11_noteFound 5 = .ok (.invokestatic 164, 3) := by decide +kernel
theorem dX11_noteFound_8 : decode cX11_noteFound 8 = .ok (.ifCond .ne 30, 3) := by decide +kernel
theorem dX11_noteFound_11 : decode cX11_noteFound 11 = .ok (.aload_n 0, 1) := by decide +kernel
theorem dX11_noteFound_12 : decode cX11_noteFound 12 = .ok (.getfield 63, 3) := by decide +kernel
theorem dX11_noteFound_15 : decode cX11_noteFound 15 = .ok (.iconst 1, 1) := by decide +kernel
theorem dX11_noteFound_16 : decode cX11_noteFound 16 = .ok (.iload_n 1, 1) := by decide +kernel
theorem dX11_noteFound_17 : decode cX11_noteFound 17 = .ok (.invokestatic 112, 3) := by decide +kernel
theorem dX11_noteFound_20 : decode cX11_noteFound 20 = .ok (.aload_n 0, 1) := by decide +kernel
theorem dX11_noteFound_21 : decode cX11_noteFound 21 = .ok (.getfield 63, 3) := by decide +kernel
theorem dX11_noteFound_24 : decode cX11_noteFound 24 = .ok (.iconst 2, 1) := by decide +kernel
theorem dX11_noteFound_25 : decode cX11_noteFound 25 = .ok (.iload_n 2, 1) := by decide +kernel
theorem dX11_noteFound_26 : decode cX11_noteFound 26 = .ok (.invokestatic 112, 3) := by decide +kernel
theorem dX11_noteFound_29 : decode cX11_noteFound 29 = .ok (.aload_n 0, 1) := by decide +kernel
theorem dX11_noteFound_30 : decode cX11_noteFound 30 = .ok (.getfield 63, 3) := by decide +kernel
theorem dX11_noteFound_33 : decode cX11_noteFound 33 = .ok (.iconst 3, 1) := by decide +kernel
theorem dX11_noteFound_34 : decode cX11_noteFound 34 = .ok (.iload_n 3, 1) := by decide +kernel
theorem dX11_noteFound_35 : decode cX11_noteFound 35 = .ok (.invokestatic 112, 3) := by decide +kernel
theorem dX11_noteFound_38 : decode cX11_noteFound 38 = .ok (.aload_n 0, 1) := by decide +kernel
theorem dX11_noteFound_39 : decode cX11_noteFound 39 = .ok (.getfield 63, 3) := by decide +kernel
theorem dX11_noteFound_42 : decode cX11_noteFound 42 = .ok (.iconst 0, 1) := by decide +kernel
theorem dX11_noteFound_43 : decode cX11_noteFound 43 = .ok (.aload_n 0, 1) := by decide +kernel
theorem dX11_noteFound_44 : decode cX11_noteFound 44 = .ok (.getfield 63, 3) := by decide +kernel
theorem dX11_noteFound_47 : decode cX11_noteFound 47 = .ok (.iconst 0, 1) := by decide +kernel
theorem dX11_noteFound_48 : decode cX11_noteFound 48 = .ok (.invokestatic 164, 3) := by decide +kernel
theorem dX11_noteFound_51 : decode cX11_noteFound 51 = .ok (.iconst 1, 1) := by decide +kernel
theorem dX11_noteFound_52 : decode cX11_noteFound 52 = .ok (.iadd, 1) := by decide +kernel
theorem dX11_noteFound_53 : decode cX11_noteFound 53 = .ok (.invokestatic 112, 3) := by decide +kernel
theorem dX11_noteFound_56 : decode cX11_noteFound 56 = .ok (.return_, 1) := by decide +kernel
theorem dX11_order_0 : decode cX11_order 0 = .ok (.aload_n 0, 1) := by decide +kernel
theorem dX11_order_1 : decode cX11_order 1 = .ok (.getfield 19, 3) := by decide +kernel
theorem dX11_order_4 : decode cX11_order 4 = .ok (.getfield 133, 3) := by decide +kernel
theorem dX11_order_7 : decode cX11_order 7 = .ok (.iload_n 2, 1) := by decide +kernel
theorem dX11_order_8 : decode cX11_order 8 = .ok (.invokevirtual 155, 3) := by decide +kernel
theorem dX11_order_11 : decode cX11_order 11 = .ok (.istore_n 3, 1) := by decide +kernel
theorem dX11_order_12 : decode cX11_order 12 = .ok (.iload_n 2, 1) := by decide +kernel
theorem dX11_order_13 : decode cX11_order 13 = .ok (.bipush 30, 2) := by decide +kernel
theorem dX11_order_15 : decode cX11_order 15 = .ok (.if_icmp .eq 9, 3) := by decide +kernel
theorem dX11_order_18 : decode cX11_order 18 = .ok (.iload_n 2, 1) := by decide +kernel
theorem dX11_order_19 : decode cX11_order 19 = .ok (.bipush 31, 2) := by decide +kernel
theorem dX11_order_21 : decode cX11_order 21 = .ok (.if_icmp .ne 7, 3) := by decide +kernel
theorem dX11_order_24 : decode cX11_order 24 = .ok (.iconst 1, 1) := by decide +kernel
theorem dX11_order_25 : decode cX11_order 25 = .ok (.goto 4, 3) := by decide +kernel
theorem dX11_order_28 : decode cX11_order 28 = .ok (.iconst 0, 1) := by decide +kernel
theorem dX11_order_29 : decode cX11_order 29 = .ok (.istore 4, 2) := by decide +kernel
theorem dX11_order_31 : decode cX11_order 31 = .ok (.iload_n 1, 1) := by decide +kernel
theorem dX11_order_32 : decode cX11_order 32 = .ok (.ifCond .lt 31, 3) := by decide +kernel
theorem dX11_order_35 : decode cX11_order 35 = .ok (.iload_n 1, 1) := by decide +kernel
theorem dX11_order_36 : decode cX11_order 36 = .ok (.bipush 10, 2) := by decide +kernel
theorem dX11_order_38 : decode cX11_order 38 = .ok (.if_icmp .ge 25, 3) := by decide +kernel
theorem dX11_order_41 : decode cX11_order 41 = .ok (.aload_n 0, 1) := by decide +kernel
theorem dX11_order_42 : decode cX11_order 42 = .ok (.getfield 19, 3) := by decide +kernel
theorem dX11_order_45 : decode cX11_order 45 = .ok (.getfield 133, 3) := by decide +kernel
theorem dX11_order_48 : decode cX11_order 48 = .ok (.getfield 198, 3) := by decide +kernel
theorem dX11_order_51 : decode cX11_order 51 = .ok (.ifCond .eq 12, 3) := by decide +kernel
theorem dX11_order_54 : decode cX11_order 54 = .ok (.iload_n 3, 1) := by decide +kernel
theorem dX11_order_55 : decode cX11_order 55 = .ok (.ifCond .ne 12, 3) := by decide +kernel
theorem dX11_order_58 : decode cX11_order 58 = .ok (.iload 4, 2) := by decide +kernel
theorem dX11_order_60 : decode cX11_order 60 = .ok (.ifCond .ne 7, 3) := by decide +kernel
theorem dX11_order_63 : decode cX11_order 63 = .ok (.ldc2_w 280, 3) := by decide +kernel
theorem dX11_order_66 : decode cX11_order 66 = .ok (.lreturn, 1) := by decide +kernel
theorem dX11_order_67 : decode cX11_order 67 = .ok (.iconst 0, 1) := by decide +kernel
theorem dX11_order_68 : decode cX11_order 68 = .ok (.istore 5, 2) := by decide +kernel
theorem dX11_order_70 : decode cX11_order 70 = .ok (.iload 5, 2) := by decide +kernel
theorem dX11_order_72 : decode cX11_order 72 = .ok (.aload_n 0, 1) := by decide +kernel
theorem dX11_order_73 : decode cX11_order 73 = .ok (.getfield 19, 3) := by decide +kernel
theorem dX11_order_76 : decode cX11_order 76 = .ok (.getfield 133, 3) := by decide +kernel
theorem dX11_order_79 : decode cX11_order 79 = .ok (.getfield 198, 3) := by decide +kernel
theorem dX11_order_82 : decode cX11_order 82 = .ok (.if_icmp .ge 51, 3) := by decide +kernel
theorem dX11_order_85 : decode cX11_order 85 = .ok (.aload_n 0, 1) := by decide +kernel
theorem dX11_order_86 : decode cX11_order 86 = .ok (.getfield 90, 3) := by decide +kernel
theorem dX11_order_89 : decode cX11_order 89 = .ok (.getfield 282, 3) := by decide +kernel
theorem dX11_order_92 : decode cX11_order 92 = .ok (.iload 5, 2) := by decide +kernel
theorem dX11_order_94 : decode cX11_order 94 = .ok (.aload_n 0, 1) := by decide +kernel
theorem dX11_order_95 : decode cX11_order 95 = .ok (.bipush 116, 2) := by decide +kernel
theorem dX11_order_97 : decode cX11_order 97 = .ok (.iload 5, 2) := by decide +kernel
theorem dX11_order_99 : decode cX11_order 99 = .ok (.iload_n 1, 1) := by decide +kernel
theorem dX11_order_100 : decode cX11_order 100 = .ok (.invokevirtual 285, 3) := by decide +kernel
theorem dX11_order_103 : decode cX11_order 103 = .ok (.invokestatic 112, 3) := by decide +kernel
theorem dX11_order_106 : decode cX11_order 106 = .ok (.aload_n 0, 1) := by decide +kernel
theorem dX11_order_107 : decode cX11_order 107 = .ok (.getfield 90, 3) := by decide +kernel
theorem dX11_order_110 : decode cX11_order 110 = .ok (.getfield 289, 3) := by decide +kernel
theorem dX11_order_113 : decode cX11_order 113 = .ok (.iload 5, 2) := by decide +kernel
theorem dX11_order_115 : decode cX11_order 115 = .ok (.aload_n 0, 1) := by decide +kernel
theorem dX11_order_116 : decode cX11_order 116 = .ok (.bipush 119, 2) := by decide +kernel
theorem dX11_order_118 : decode cX11_order 118 = .ok (.iload 5, 2) := by decide +kernel
theorem dX11_order_120 : decode cX11_order 120 = .ok (.iconst 0, 1) := by decide +kernel
theorem dX11_order_121 : decode cX11_order 121 = .ok (.invokevirtual 285, 3) := by decide +kernel
theorem dX11_order_124 : decode cX11_order 124 = .ok (.invokestatic 112, 3) := by decide +kernel
theorem dX11_order_127 : decode cX11_order 127 = .ok (.iinc 5 1, 3) := by decide +kernel
theorem dX11_order_130 : decode cX11_order 130 = .ok (.goto (-60), 3) := by decide +kernel
theorem dX11_order_133 : decode cX11_order 133 = .ok (.aload_n 0, 1) := by decide +kernel
theorem dX11_order_134 : decode cX11_order 134 = .ok (.getfield 90, 3) := by decide +kernel
theorem dX11_order_137 : decode cX11_order 137 = .ok (.aload_n 0, 1) := by decide +kernel
theorem dX11_order_138 : decode cX11_order 138 = .ok (.getfield 19, 3) := by decide +kernel
theorem dX11_order_141 : decode cX11_order 141 = .ok (.getfield 133, 3) := by decide +kernel
theorem dX11_order_144 : decode cX11_order 144 = .ok (.getfield 198, 3) := by decide +kernel
theorem dX11_order_147 : decode cX11_order 147 = .ok (.invokevirtual 292, 3) := by decide +kernel
theorem dX11_order_150 : decode cX11_order 150 = .ok (.iload 4, 2) := by decide +kernel
theorem dX11_order_152 : decode cX11_order 152 = .ok (.ifCond .eq 27, 3) := by decide +kernel
theorem dX11_order_155 : decode cX11_order 155 = .ok (.iload_n 2, 1) := by decide +kernel
theorem dX11_order_156 : decode cX11_order 156 = .ok (.bipush 30, 2) := by decide +kernel
theorem dX11_order_158 : decode cX11_order 158 = .ok (.if_icmp .ne 13, 3) := by decide +kernel
theorem dX11_order_161 : decode cX11_order 161 = .ok (.aload_n 0, 1) := by decide +kernel
theorem dX11_order_162 : decode cX11_order 162 = .ok (.getfield 90, 3) := by decide +kernel
theorem dX11_order_165 : decode cX11_order 165 = .ok (.getfield 295, 3) := by decide +kernel
theorem dX11_order_168 : decode cX11_order 168 = .ok (.goto 10, 3) := by decide +kernel
theorem dX11_order_171 : decode cX11_order 171 = .ok (.aload_n 0, 1) := by decide +kernel
theorem dX11_order_172 : decode cX11_order 172 = .ok (.getfield 90, 3) := by decide +kernel
theorem dX11_order_175 : decode cX11_order 175 = .ok (.getfield 299, 3) := by decide +kernel
theorem dX11_order_178 : decode cX11_order 178 = .ok (.lreturn, 1) := by decide +kernel
theorem dX11_order_179 : decode cX11_order 179 = .ok (.aload_n 0, 1) := by decide +kernel
theorem dX11_order_180 : decode cX11_order 180 = .ok (.getfield 90, 3) := by decide +kernel
theorem dX11_order_183 : decode cX11_order 183 = .ok (.getfield 302, 3) := by decide +kernel
theorem dX11_order_186 : decode cX11_order 186 = .ok (.iload_n 2, 1) := by decide +kernel
theorem dX11_order_187 : decode cX11_order 187 = .ok (.invokestatic 164, 3) := by decide +kernel
theorem dX11_order_190 : decode cX11_order 190 = .ok (.i2l, 1) := by decide +kernel
theorem dX11_order_191 : decode cX11_order 191 = .ok (.lreturn, 1) := by decide +kernel
theorem dX11_points_0 : decode cX11_points 0 = .ok (.iload_n 1, 1) := by decide +kernel
theorem dX11_points_1 : decode cX11_points 1 = .ok (.invokestatic 323, 3) := by decide +kernel
theorem dX11_points_4 : decode cX11_points 4 = .ok (.ifCond .eq 17, 3) := by decide +kernel
theorem dX11_points_7 : decode cX11_points 7 = .ok (.aload_n 0, 1) := by decide +kernel
theorem dX11_points_8 : decode cX11_points 8 = .ok (.getfield 19, 3) := by decide +kernel
theorem dX11_points_11 : decode cX11_points 11 = .ok (.getfield 326, 3) := by decide +kernel
theorem dX11_points_14 : decode cX11_points 14 = .ok (.iload_n 1, 1) := by decide +kernel
theorem dX11_points_15 : decode cX11_points 15 = .ok (.invokestatic 164, 3) := by decide +kernel
theorem dX11_points_18 : decode cX11_points 18 = .ok (.goto 6, 3) := by decide +kernel
theorem dX11_points_21 : decode cX11_points 21 = .ok (.sipush (-1000), 3) := by decide +kernel
theorem dX11_points_24 : decode cX11_points 24 = .ok (.ireturn, 1) := by decide +kernel
theorem dX11_proof_0 : decode cX11_proof 0 = .ok (.iload_n 1, 1) := by decide +kernel
theorem dX11_proof_1 : decode cX11_proof 1 = .ok (.iconst 1, 1) := by decide +kernel
theorem dX11_proof_2 : decode cX11_proof 2 = .ok (.if_icmp .lt 21, 3) := by decide +kernel
theorem dX11_proof_5 : decode cX11_proof 5 = .ok (.iload_n 1, 1) := by decide +kernel
theorem dX11_proof_6 : decode cX11_proof 6 = .ok (.sipush 200, 3) := by decide +kernel
theorem dX11_proof_9 : decode cX11_proof 9 = .ok (.if_icmp .gt 14, 3) := by decide +kernel
theorem dX11_proof_12 : decode cX11_proof 12 = .ok (.iload_n 1, 1) := by decide +kernel
theorem dX11_proof_13 : decode cX11_proof 13 = .ok (.aload_n 0, 1) := by decide +kernel
theorem dX11_proof_14 : decode cX11_proof 14 = .ok (.getfield 10, 3) := by decide +kernel
theorem dX11_proof_17 : decode cX11_proof 17 = .ok (.getfield 116, 3) := by decide +kernel
theorem dX11_proof_20 : decode cX11_proof 20 = .ok (.if_icmp .le 5, 3) := by decide +kernel
theorem dX11_proof_23 : decode cX11_proof 23 = .ok (.iconst (-1), 1) := by decide +kernel
theorem dX11_proof_24 : decode cX11_proof 24 = .ok (.ireturn, 1) := by decide +kernel
theorem dX11_proof_25 : decode cX11_proof 25 = .ok (.aload_n 0, 1) := by decide +kernel
theorem dX11_proof_26 : decode cX11_proof 26 = .ok (.getfield 35, 3) := by decide +kernel
theorem dX11_proof_29 : decode cX11_proof 29 = .ok (.iload_n 1, 1) := by decide +kernel
theorem dX11_proof_30 : decode cX11_proof 30 = .ok (.aload_n 0, 1) := by decide +kernel
theorem dX11_proof_31 : decode cX11_proof 31 = .ok (.getfield 19, 3) := by decide +kernel
theorem dX11_proof_34 : decode cX11_proof 34 = .ok (.getfield 123, 3) := by decide +kernel
theorem dX11_proof_37 : decode cX11_proof 37 = .ok (.invokevirtual 126, 3) := by decide +kernel
theorem dX11_proof_40 : decode cX11_proof 40 = .ok (.istore_n 2, 1) := by decide +kernel
theorem dX11_proof_41 : decode cX11_proof 41 = .ok (.aload_n 0, 1) := by decide +kernel
theorem dX11_proof_42 : decode cX11_proof 42 = .ok (.getfield 10, 3) := by decide +kernel
theorem dX11_proof_45 : decode cX11_proof 45 = .ok (.invokevirtual 130, 3) := by decide +kernel
theorem dX11_proof_48 : decode cX11_proof 48 = .ok (.iload_n 2, 1) := by decide +kernel
theorem dX11_proof_49 : decode cX11_proof 49 = .ok (.ifCond .le 20, 3) := by decide +kernel
theorem dX11_proof_52 : decode cX11_proof 52 = .ok (.aload_n 0, 1) := by decide +kernel
theorem dX11_proof_53 : decode cX11_proof 53 = .ok (.getfield 19, 3) := by decide +kernel
theorem dX11_proof_56 : decode cX11_proof 56 = .ok (.getfield 133, 3) := by decide +kernel
theorem dX11_proof_59 : decode cX11_proof 59 = .ok (.aload_n 0, 1) := by decide +kernel
theorem dX11_proof_60 : decode cX11_proof 60 = .ok (.getfield 35, 3) := by decide +kernel
theorem dX11_proof_63 : decode cX11_proof 63 = .ok (.getfield 137, 3) := by decide +kernel
theorem dX11_proof_66 : decode cX11_proof 66 = .ok (.invokevirtual 140, 3) := by decide +kernel
theorem dX11_proof_69 : decode cX11_proof 69 = .ok (.iload_n 2, 1) := by decide +kernel
theorem dX11_proof_70 : decode cX11_proof 70 = .ok (.ireturn, 1) := by decide +kernel
theorem dX11_put_0 : decode cX11_put 0 = .ok (.iload_n 1, 1) := by decide +kernel
theorem dX11_put_1 : decode cX11_put 1 = .ok (.ifCond .lt 13, 3) := by decide +kernel
theorem dX11_put_4 : decode cX11_put 4 = .ok (.iload_n 1, 1) := by decide +kernel
theorem dX11_put_5 : decode cX11_put 5 = .ok (.aload_n 0, 1) := by decide +kernel
theorem dX11_put_6 : decode cX11_put 6 = .ok (.arraylength, 1) := by decide +kernel
theorem dX11_put_7 : decode cX11_put 7 = .ok (.if_icmp .ge 7, 3) := by decide +kernel
theorem dX11_put_10 : decode cX11_put 10 = .ok (.aload_n 0, 1) := by decide +kernel
theorem dX11_put_11 : decode cX11_put 11 = .ok (.iload_n 1, 1) := by decide +kernel
theorem dX11_put_12 : decode cX11_put 12 = .ok (.iload_n 2, 1) := by decide +kernel
theorem dX11_put_13 : decode cX11_put 13 = .ok (.iastore, 1) := by decide +kernel
theorem dX11_put_14 : decode cX11_put 14 = .ok (.return_, 1) := by decide +kernel
theorem dX11_readAll_0 : decode cX11_readAll 0 = .ok (.iconst 0, 1) := by decide +kernel
theorem dX11_readAll_1 : decode cX11_readAll 1 = .ok (.istore_n 2, 1) := by decide +kernel
theorem dX11_readAll_2 : decode cX11_readAll 2 = .ok (.iconst 0, 1) := by decide +kernel
theorem dX11_readAll_3 : decode cX11_readAll 3 = .ok (.istore_n 3, 1) := by decide +kernel
theorem dX11_readAll_4 : decode cX11_readAll 4 = .ok (.iload_n 3, 1) := by decide +kernel
theorem dX11_readAll_5 : decode cX11_readAll 5 = .ok (.bipush 10, 2) := by decide +kernel
theorem dX11_readAll_7 : decode cX11_readAll 7 = .ok (.if_icmp .ge 28, 3) := by decide +kernel
theorem dX11_readAll_10 : decode cX11_readAll 10 = .ok (.iload_n 1, 1) := by decide +kernel
theorem dX11_readAll_11 : decode cX11_readAll 11 = .ok (.iload_n 3, 1) := by decide +kernel
theorem dX11_readAll_12 : decode cX11_readAll 12 = .ok (.invokestatic 252, 3) := by decide +kernel
theorem dX11_readAll_15 : decode cX11_readAll 15 = .ok (.ifCond .eq 14, 3) := by decide +kernel
theorem dX11_readAll_18 : decode cX11_readAll 18 = .ok (.iload_n 2, 1) := by decide +kernel
theorem dX11_readAll_19 : decode cX11_readAll 19 = .ok (.aload_n 0, 1) := by decide +kernel
theorem dX11_readAll_20 : decode cX11_readAll 20 = .ok (.getfield 60, 3) := by decide +kernel
theorem dX11_readAll_23 : decode cX11_readAll 23 = .ok (.iload_n 3, 1) := by decide +kernel
theorem dX11_readAll_24 : decode cX11_readAll 24 = .ok (.invokestatic 164, 3) := by decide +kernel
theorem dX11_readAll_27 : decode cX11_readAll 27 = .ok (.ior, 1) := by decide +kernel
theorem dX11_readAll_28 : decode cX11_readAll 28 = .ok (.istore_n 2, 1) := by decide +kernel
theorem dX11_readAll_29 : decode cX11_readAll 29 = .ok (.iinc 3 1, 3) := by decide +kernel
theorem dX11_readAll_32 : decode cX11_readAll 32 = .ok (.goto (-28), 3) := by decide +kernel
theorem dX11_readAll_35 : decode cX11_readAll 35 = .ok (.iload_n 2, 1) := by decide +kernel
theorem dX11_readAll_36 : decode cX11_readAll 36 = .ok (.aload_n 0, 1) := by decide +kernel
theorem dX11_readAll_37 : decode cX11_readAll 37 = .ok (.getfield 19, 3) := by decide +kernel
theorem dX11_readAll_40 : decode cX11_readAll 40 = .ok (.getfield 133, 3) := by decide +kernel
theorem dX11_readAll_43 : decode cX11_readAll 43 = .ok (.invokevirtual 249, 3) := by decide +kernel
theorem dX11_readAll_46 : decode cX11_readAll 46 = .ok (.if_icmp .ne 7, 3) := by decide +kernel
theorem dX11_readAll_49 : decode cX11_readAll 49 = .ok (.iconst 1, 1) := by decide +kernel
theorem dX11_readAll_50 : decode cX11_readAll 50 = .ok (.goto 4, 3) := by decide +kernel
theorem dX11_readAll_53 : decode cX11_readAll 53 = .ok (.iconst 0, 1) := by decide +kernel
theorem dX11_readAll_54 : decode cX11_readAll 54 = .ok (.ireturn, 1) := by decide +kernel
theorem dX11_readers_0 : decode cX11_readers 0 = .ok (.iload_n 1, 1) := by decide +kernel
theorem dX11_readers_1 : decode cX11_readers 1 = .ok (.invokestatic 242, 3) := by decide +kernel
theorem dX11_readers_4 : decode cX11_readers 4 = .ok (.ifCond .eq 12, 3) := by decide +kernel
theorem dX11_readers_7 : decode cX11_readers 7 = .ok (.iload_n 2, 1) := by decide +kernel
theorem dX11_readers_8 : decode cX11_readers 8 = .ok (.ifCond .lt 8, 3) := by decide +kernel
theorem dX11_readers_11 : decode cX11_readers 11 = .ok (.iload_n 2, 1) := by decide +kernel
theorem dX11_readers_12 : decode cX11_readers 12 = .ok (.iconst 1, 1) := by decide +kernel
theorem dX11_readers_13 : decode cX11_readers 13 = .ok (.if_icmp .le 5, 3) := by decide +kernel
theorem dX11_readers_16 : decode cX11_readers 16 = .ok (.iconst (-1), 1) := by decide +kernel
theorem dX11_readers_17 : decode cX11_readers 17 = .ok (.ireturn, 1) := by decide +kernel
theorem dX11_readers_18 : decode cX11_readers 18 = .ok (.iconst 0, 1) := by decide +kernel
theorem dX11_readers_19 : decode cX11_readers 19 = .ok (.istore_n 3, 1) := by decide +kernel
theorem dX11_readers_20 : decode cX11_readers 20 = .ok (.iload_n 3, 1) := by decide +kernel
theorem dX11_readers_21 : decode cX11_readers 21 = .ok (.bipush 10, 2) := by decide +kernel
theorem dX11_readers_23 : decode cX11_readers 23 = .ok (.if_icmp .ge 34, 3) := by decide +kernel
theorem dX11_readers_26 : decode cX11_readers 26 = .ok (.aload_n 0, 1) := by decide +kernel
theorem dX11_readers_27 : decode cX11_readers 27 = .ok (.getfield 60, 3) := by decide +kernel
theorem dX11_readers_30 : decode cX11_readers 30 = .ok (.iload_n 3, 1) := by decide +kernel
theorem dX11_readers_31 : decode cX11_readers 31 = .ok (.iload_n 1, 1) := by decide +kernel
theorem dX11_readers_32 : decode cX11_readers 32 = .ok (.iload_n 3, 1) := by decide +kernel
theorem dX11_readers_33 : decode cX11_readers 33 = .ok (.invokestatic 252, 3) := by decide +kernel
theorem dX11_readers_36 : decode cX11_readers 36 = .ok (.ifCond .eq 11, 3) := by decide +kernel
theorem dX11_readers_39 : decode cX11_readers 39 = .ok (.aload_n 0, 1) := by decide +kernel
theorem dX11_readers_40 : decode cX11_readers 40 = .ok (.iload_n 3, 1) := by decide +kernel
theorem dX11_readers_41 : decode cX11_readers 41 = .ok (.invokevirtual 236, 3) := by decide +kernel
theorem dX11_readers_44 : decode cX11_readers 44 = .ok (.goto 4, 3) := by decide +kernel
theorem dX11_readers_47 : decode cX11_readers 47 = .ok (.iconst 0, 1) := by decide +kernel
theorem dX11_readers_48 : decode cX11_readers 48 = .ok (.invokestatic 112, 3) := by decide +kernel
theorem dX11_readers_51 : decode cX11_readers 51 = .ok (.iinc 3 1, 3) := by decide +kernel
theorem dX11_readers_54 : decode cX11_readers 54 = .ok (.goto (-34), 3) := by decide +kernel
theorem dX11_readers_57 : decode cX11_readers 57 = .ok (.bipush (-2), 2) := by decide +kernel
theorem dX11_readers_59 : decode cX11_readers 59 = .ok (.istore_n 3, 1) := by decide +kernel
theorem dX11_readers_60 : decode cX11_readers 60 = .ok (.bipush 11, 2) := by decide +kernel
theorem dX11_readers_62 : decode cX11_readers 62 = .ok (.istore 4, 2) := by decide +kernel
theorem dX11_readers_64 : decode cX11_readers 64 = .ok (.iconst 0, 1) := by decide +kernel
theorem dX11_readers_65 : decode cX11_readers 65 = .ok (.istore 5, 2) := by decide +kernel
theorem dX11_readers_67 : decode cX11_readers 67 = .ok (.iload 5, 2) := by decide +kernel
theorem dX11_readers_69 : decode cX11_readers 69 = .ok (.iload_n 1, 1) := by decide +kernel
theorem dX11_readers_70 : decode cX11_readers 70 = .ok (.if_icmp .gt 47, 3) := by decide +kernel
theorem dX11_readers_73 : decode cX11_readers 73 = .ok (.iload 5, 2) := by decide +kernel
theorem dX11_readers_75 : decode cX11_readers 75 = .ok (.iload_n 1, 1) := by decide +kernel
theorem dX11_readers_76 : decode cX11_readers 76 = .ok (.iconst (-1), 1) := by decide +kernel
theorem dX11_readers_77 : decode cX11_readers 77 = .ok (.ixor, 1) := by decide +kernel
theorem dX11_readers_78 : decode cX11_readers 78 = .ok (.iand, 1) := by decide +kernel
theorem dX11_readers_79 : decode cX11_readers 79 = .ok (.ifCond .ne 32, 3) := by decide +kernel
theorem dX11_readers_82 : decode cX11_readers 82 = .ok (.iload 5, 2) := by decide +kernel
theorem dX11_readers_84 : decode cX11_readers 84 = .ok (.invokestatic 214, 3) := by decide +kernel
theorem dX11_readers_87 : decode cX11_readers 87 = .ok (.iload 4, 2) := by decide +kernel
theorem dX11_readers_89 : decode cX11_readers 89 = .ok (.if_icmp .ge 22, 3) := by decide +kernel
theorem dX11_readers_92 : decode cX11_readers 92 = .ok (.aload_n 0, 1) := by decide +kernel
theorem dX11_readers_93 : decode cX11_readers 93 = .ok (.iload 5, 2) := by decide +kernel
theorem dX11_readers_95 : decode cX11_readers 95 = .ok (.invokevirtual 256, 3) := by decide +kernel
theorem dX11_readers_98 : decode cX11_readers 98 = .ok (.ifCond .eq 13, 3) := by decide +kernel
theorem dX11_readers_101 : decode cX11_readers 101 = .ok (.iload 5, 2) := by decide +kernel
theorem dX11_readers_103 : decode cX11_readers 103 = .ok (.istore_n 3, 1) := by decide +kernel
theorem dX11_readers_104 : decode cX11_readers 104 = .ok (.iload 5, 2) := by decide +kernel
theorem dX11_readers_106 : decode cX11_readers 106 = .ok (.invokestatic 214, 3) := by decide +kernel
theorem dX11_readers_109 : decode cX11_readers 109 = .ok (.istore 4, 2) := by decide +kernel
theorem dX11_readers_111 : decode cX11_readers 111 = .ok (.iinc 5 1, 3) := by decide +kernel
theorem dX11_readers_114 : decode cX11_readers 114 = .ok (.goto (-47), 3) := by decide +kernel
theorem dX11_readers_117 : decode cX11_readers 117 = .ok (.iload_n 3, 1) := by decide +kernel
theorem dX11_readers_118 : decode cX11_readers 118 = .ok (.ifCond .lt 12, 3) := by decide +kernel
theorem dX11_readers_121 : decode cX11_readers 121 = .ok (.iload_n 2, 1) := by decide +kernel
theorem dX11_readers_122 : decode cX11_readers 122 = .ok (.ifCond .ne 8, 3) := by decide +kernel
theorem dX11_readers_125 : decode cX11_readers 125 = .ok (.iload 4, 2) := by decide +kernel
theorem dX11_readers_127 : decode cX11_readers 127 = .ok (.goto 4, 3) := by decide +kernel
theorem dX11_readers_130 : decode cX11_readers 130 = .ok (.iload_n 3, 1) := by decide +kernel
theorem dX11_readers_131 : decode cX11_readers 131 = .ok (.ireturn, 1) := by decide +kernel
theorem dX11_reads_0 : decode cX11_reads 0 = .ok (.iload_n 1, 1) := by decide +kernel
theorem dX11_reads_1 : decode cX11_reads 1 = .ok (.ifCond .lt 18, 3) := by decide +kernel
theorem dX11_reads_4 : decode cX11_reads 4 = .ok (.iload_n 1, 1) := by decide +kernel
theorem dX11_reads_5 : decode cX11_reads 5 = .ok (.bipush 10, 2) := by decide +kernel
theorem dX11_reads_7 : decode cX11_reads 7 = .ok (.if_icmp .ge 12, 3) := by decide +kernel
theorem dX11_reads_10 : decode cX11_reads 10 = .ok (.iload_n 2, 1) := by decide +kernel
theorem dX11_reads_11 : decode cX11_reads 11 = .ok (.ifCond .lt 8, 3) := by decide +kernel
theorem dX11_reads_14 : decode cX11_reads 14 = .ok (.iload_n 2, 1) := by decide +kernel
theorem dX11_reads_15 : decode cX11_reads 15 = .ok (.iconst 2, 1) := by decide +kernel
theorem dX11_reads_16 : decode cX11_reads 16 = .ok (.if_icmp .le 5, 3) := by decide +kernel
theorem dX11_reads_19 : decode cX11_reads 19 = .ok (.iconst (-1), 1) := by decide +kernel
theorem dX11_reads_20 : decode cX11_reads 20 = .ok (.ireturn, 1) := by decide +kernel
theorem dX11_reads_21 : decode cX11_reads 21 = .ok (.aload_n 0, 1) := by decide +kernel
theorem dX11_reads_22 : decode cX11_reads 22 = .ok (.iload_n 1, 1) := by decide +kernel
theorem dX11_reads_23 : decode cX11_reads 23 = .ok (.invokevirtual 236, 3) := by decide +kernel
theorem dX11_reads_26 : decode cX11_reads 26 = .ok (.istore_n 3, 1) := by decide +kernel
theorem dX11_reads_27 : decode cX11_reads 27 = .ok (.iload_n 2, 1) := by decide +kernel
theorem dX11_reads_28 : decode cX11_reads 28 = .ok (.ifCond .ne 5, 3) := by decide +kernel
theorem dX11_reads_31 : decode cX11_reads 31 = .ok (.iload_n 3, 1) := by decide +kernel
theorem dX11_reads_32 : decode cX11_reads 32 = .ok (.ireturn, 1) := by decide +kernel
theorem dX11_reads_33 : decode cX11_reads 33 = .ok (.iload_n 2, 1) := by decide +kernel
theorem dX11_reads_34 : decode cX11_reads 34 = .ok (.iconst 1, 1) := by decide +kernel
theorem dX11_reads_35 : decode cX11_reads 35 = .ok (.if_icmp .ne 15, 3) := by decide +kernel
theorem dX11_reads_38 : decode cX11_reads 38 = .ok (.iload_n 3, 1) := by decide +kernel
theorem dX11_reads_39 : decode cX11_reads 39 = .ok (.aload_n 0, 1) := by decide +kernel
theorem dX11_reads_40 : decode cX11_reads 40 = .ok (.getfield 19, 3) := by decide +kernel
theorem dX11_reads_43 : decode cX11_reads 43 = .ok (.invokevirtual 194, 3) := by decide +kernel
theorem dX11_reads_46 : decode cX11_reads 46 = .ok (.iand, 1) := by decide +kernel
theorem dX11_reads_47 : decode cX11_reads 47 = .ok (.goto 9, 3) := by decide +kernel
theorem dX11_reads_50 : decode cX11_reads 50 = .ok (.aload_n 0, 1) := by decide +kernel
theorem dX11_reads_51 : decode cX11_reads 51 = .ok (.iload_n 1, 1) := by decide +kernel
theorem dX11_reads_52 : decode cX11_reads 52 = .ok (.iload_n 3, 1) := by decide +kernel
theorem dX11_reads_53 : decode cX11_reads 53 = .ok (.invokevirtual 239, 3) := by decide +kernel
theorem dX11_reads_56 : decode cX11_reads 56 = .ok (.ireturn, 1) := by decide +kernel
theorem dX11_referElsewhere_0 : decode cX11_referElsewhere 0 = .ok (.aload_n 0, 1) := by decide +kernel
theorem dX11_referElsewhere_1 : decode cX11_referElsewhere 1 = .ok (.getfield 19, 3) := by decide +kernel
theorem dX11_referElsewhere_4 : decode cX11_referElsewhere 4 = .ok (.getfield 133, 3) := by decide +kernel
theorem dX11_referElsewhere_7 : decode cX11_referElsewhere 7 = .ok (.getfield 161, 3) := by decide +kernel
theorem dX11_referElsewhere_10 : decode cX11_referElsewhere 10 = .ok (.iload_n 1, 1) := by decide +kernel
theorem dX11_referElsewhere_11 : decode cX11_referElsewhere 11 = .ok (.invokestatic 164, 3) := by decide +kernel
theorem dX11_referElsewhere_14 : decode cX11_referElsewhere 14 = .ok (.istore_n 3, 1) := by decide +kernel
theorem dX11_referElsewhere_15 : decode cX11_referElsewhere 15 = .ok (.iload_n 3, 1) := by decide +kernel
theorem dX11_referElsewhere_16 : decode cX11_referElsewhere 16 = .ok (.ifCond .eq 13, 3) := by decide +kernel
theorem dX11_referElsewhere_19 : decode cX11_referElsewhere 19 = .ok (.iload_n 2, 1) := by decide +kernel
theorem dX11_referElsewhere_20 : decode cX11_referElsewhere 20 = .ok (.iconst 1, 1) := by decide +kernel
theorem dX11_referElsewhere_21 : decode cX11_referElsewhere 21 = .ok (.if_icmp .ne 9, 3) := by decide +kernel
theorem dX11_referElsewhere_24 : decode cX11_referElsewhere 24 = .ok (.iload_n 3, 1) := by decide +kernel
theorem dX11_referElsewhere_25 : decode cX11_referElsewhere 25 = .ok (.iconst 3, 1) := by decide +kernel
theorem dX11_referElsewhere_26 : decode cX11_referElsewhere 26 = .ok (.if_icmp .ge 4, 3) := by decide +kernel
theorem dX11_referElsewhere_29 : decode cX11_referElsewhere 29 = .ok (.return_, 1) := by decide +kernel
theorem dX11_referElsewhere_30 : decode cX11_referElsewhere 30 = .ok (.aload_n 0, 1) := by decide +kernel
theorem dX11_referElsewhere_31 : decode cX11_referElsewhere 31 = .ok (.getfield 19, 3) := by decide +kernel
theorem dX11_referElsewhere_34 : decode cX11_referElsewhere 34 = .ok (.getfield 133, 3) := by decide +kernel
theorem dX11_referElsewhere_37 : decode cX11_referElsewhere 37 = .ok (.getfield 168, 3) := by decide +kernel
theorem dX11_referElsewhere_40 : decode cX11_referElsewhere 40 = .ok (.iload_n 1, 1) := by decide +kernel
theorem dX11_referElsewhere_41 : decode cX11_referElsewhere 41 = .ok (.invokestatic 164, 3) := by decide +kernel
theorem dX11_referElsewhere_44 : decode cX11_referElsewhere 44 = .ok (.istore 4, 2) := by decide +kernel
theorem dX11_referElsewhere_46 : decode cX11_referElsewhere 46 = .ok (.aload_n 0, 1) := by decide +kernel
theorem dX11_referElsewhere_47 : decode cX11_referElsewhere 47 = .ok (.getfield 19, 3) := by decide +kernel
theorem dX11_referElsewhere_50 : decode cX11_referElsewhere 50 = .ok (.getfield 133, 3) := by decide +kernel
theorem dX11_referElsewhere_53 : decode cX11_referElsewhere 53 = .ok (.getfield 171, 3) := by decide +kernel
theorem dX11_referElsewhere_56 : decode cX11_referElsewhere 56 = .ok (.iload_n 1, 1) := by decide +kernel
theorem dX11_referElsewhere_57 : decode cX11_referElsewhere 57 = .ok (.invokestatic 164, 3) := by decide +kernel
theorem dX11_referElsewhere_60 : decode cX11_referElsewhere 60 = .ok (.istore 5, 2) := by decide +kernel
theorem dX11_referElsewhere_62 : decode cX11_referElsewhere 62 = .ok (.iconst 0, 1) := by decide +kernel
theorem dX11_referElsewhere_63 : decode cX11_referElsewhere 63 = .ok (.istore 6, 2) := by decide +kernel
theorem dX11_referElsewhere_65 : decode cX11_referElsewhere 65 = .ok (.iload 6, 2) := by decide +kernel
theorem dX11_referElsewhere_67 : decode cX11_referElsewhere 67 = .ok (.iload_n 1, 1) := by decide +kernel
theorem dX11_referElsewhere_68 : decode cX11_referElsewhere 68 = .ok (.if_icmp .ge 101, 3) := by decide +kernel
theorem dX11_referElsewhere_71 : decode cX11_referElsewhere 71 = .ok (.iload 6, 2) := by decide +kernel
theorem dX11_referElsewhere_73 : decode cX11_referElsewhere 73 = .ok (.iload_n 2, 1) := by decide +kernel
theorem dX11_referElsewhere_74 : decode cX11_referElsewhere 74 = .ok (.ifCond .ne 8, 3) := by decide +kernel
theorem dX11_referElsewhere_77 : decode cX11_referElsewhere 77 = .ok (.iload 4, 2) := by decide +kernel
theorem dX11_referElsewhere_79 : decode cX11_referElsewhere 79 = .ok (.goto 5, 3) := by decide +kernel
theorem dX11_referElsewhere_82 : decode cX11_referElsewhere 82 = .ok (.iload 5, 2) := by decide +kernel
theorem dX11_referElsewhere_84 : decode cX11_referElsewhere 84 = .ok (.if_icmp .eq 7, 3) := by decide +kernel
theorem dX11_referElsewhere_87 : decode cX11_referElsewhere 87 = .ok (.iconst 1, 1) := by decide +kernel
theorem dX11_referElsewhere_88 : decode cX11_referElsewhere 88 = .ok (.goto 4, 3) := by decide +kernel
theorem dX11_referElsewhere_91 : decode cX11_referElsewhere 91 = .ok (.iconst 0, 1) := by decide +kernel
theorem dX11_referElsewhere_92 : decode cX11_referElsewhere 92 = .ok (.istore 7, 2) := by decide +kernel
theorem dX11_referElsewhere_94 : decode cX11_referElsewhere 94 = .ok (.aload_n 0, 1) := by decide +kernel
theorem dX11_referElsewhere_95 : decode cX11_referElsewhere 95 = .ok (.getfield 19, 3) := by decide +kernel
theorem dX11_referElsewhere_98 : decode cX11_referElsewhere 98 = .ok (.iload_n 3, 1) := by decide +kernel
theorem dX11_referElsewhere_99 : decode cX11_referElsewhere 99 = .ok (.iload_n 2, 1) := by decide +kernel
theorem dX11_referElsewhere_100 : decode cX11_referElsewhere 100 = .ok (.ifCond .ne 8, 3) := by decide +kernel
theorem dX11_referElsewhere_103 : decode cX11_referElsewhere 103 = .ok (.iload 6, 2) := by decide +kernel
theorem dX11_referElsewhere_105 : decode cX11_referElsewhere 105 = .ok (.goto 5, 3) := by decide +kernel
theorem dX11_referElsewhere_108 : decode cX11_referElsewhere 108 = .ok (.iload 4, 2) := by decide +kernel
theorem dX11_referElsewhere_110 : decode cX11_referElsewhere 110 = .ok (.iload_n 2, 1) := by decide +kernel
theorem dX11_referElsewhere_111 : decode cX11_referElsewhere 111 = .ok (.iconst 1, 1) := by decide +kernel
theorem dX11_referElsewhere_112 : decode cX11_referElsewhere 112 = .ok (.if_icmp .ne 8, 3) := by decide +kernel
theorem dX11_referElsewhere_115 : decode cX11_referElsewhere 115 = .ok (.iload 6, 2) := by decide +kernel
theorem dX11_referElsewhere_117 : decode cX11_referElsewhere 117 = .ok (.goto 5, 3) := by decide +kernel
theorem dX11_referElsewhere_120 : decode cX11_referElsewhere 120 = .ok (.iload 5, 2) := by decide +kernel
theorem dX11_referElsewhere_122 : decode cX11_referElsewhere 122 = .ok (.aload_n 0, 1) := by decide +kernel
theorem dX11_referElsewhere_123 : decode cX11_referElsewhere 123 = .ok (.getfield 19, 3) := by decide +kernel
theorem dX11_referElsewhere_126 : decode cX11_referElsewhere 126 = .ok (.getfield 133, 3) := by decide +kernel
theorem dX11_referElsewhere_129 : decode cX11_referElsewhere 129 = .ok (.getfield 178, 3) := by decide +kernel
theorem dX11_referElsewhere_132 : decode cX11_referElsewhere 132 = .ok (.invokevirtual 344, 3) := by decide +kernel
theorem dX11_referElsewhere_135 : decode cX11_referElsewhere 135 = .ok (.istore 8, 2) := by decide +kernel
theorem dX11_referElsewhere_137 : decode cX11_referElsewhere 137 = .ok (.iload 7, 2) := by decide +kernel
theorem dX11_referElsewhere_139 : decode cX11_referElsewhere 139 = .ok (.ifCond .eq 24, 3) := by decide +kernel
theorem dX11_referElsewhere_142 : decode cX11_referElsewhere 142 = .ok (.iload 8, 2) := by decide +kernel
theorem dX11_referElsewhere_144 : decode cX11_referElsewhere 144 = .ok (.aload_n 0, 1) := by decide +kernel
theorem dX11_referElsewhere_145 : decode cX11_referElsewhere 145 = .ok (.getfield 19, 3) := by decide +kernel
theorem dX11_referElsewhere_148 : decode cX11_referElsewhere 148 = .ok (.iload_n 1, 1) := by decide +kernel
theorem dX11_referElsewhere_149 : decode cX11_referElsewhere 149 = .ok (.invokevirtual 158, 3) := by decide +kernel
theorem dX11_referElsewhere_152 : decode cX11_referElsewhere 152 = .ok (.if_icmp .ne 11, 3) := by decide +kernel
theorem dX11_referElsewhere_155 : decode cX11_referElsewhere 155 = .ok (.aload_n 0, 1) := by decide +kernel
theorem dX11_referElsewhere_156 : decode cX11_referElsewhere 156 = .ok (.iload_n 1, 1) := by decide +kernel
theorem dX11_referElsewhere_157 : decode cX11_referElsewhere 157 = .ok (.iload_n 2, 1) := by decide +kernel
theorem dX11_referElsewhere_158 : decode cX11_referElsewhere 158 = .ok (.iload 6, 2) := by decide +kernel
theorem dX11_referElsewhere_160 : decode cX11_referElsewhere 160 = .ok (.invokevirtual 225, 3) := by decide +kernel
theorem dX11_referElsewhere_163 : decode cX11_referElsewhere 163 = .ok (.iinc 6 1, 3) := by decide +kernel
theorem dX11_referElsewhere_166 : decode cX11_referElsewhere 166 = .ok (.goto (-101), 3) := by decide +kernel
theorem dX11_referElsewhere_169 : decode cX11_referElsewhere 169 = .ok (.return_, 1) := by decide +kernel
theorem dX11_referred_0 : decode cX11_referred 0 = .ok (.iload_n 1, 1) := by decide +kernel
theorem dX11_referred_1 : decode cX11_referred 1 = .ok (.ifCond .lt 18, 3) := by decide +kernel
theorem dX11_referred_4 : decode cX11_referred 4 = .ok (.iload_n 1, 1) := by decide +kernel
theorem dX11_referred_5 : decode cX11_referred 5 = .ok (.iconst 3, 1) := by decide +kernel
theorem dX11_referred_6 : decode cX11_referred 6 = .ok (.if_icmp .gt 13, 3) := by decide +kernel
theorem dX11_referred_9 : decode cX11_referred 9 = .ok (.aload_n 0, 1) := by decide +kernel
theorem dX11_referred_10 : decode cX11_referred 10 = .ok (.getfield 19, 3) := by decide +kernel
theorem dX11_referred_13 : decode cX11_referred 13 = .ok (.invokevirtual 194, 3) := by decide +kernel
theorem dX11_referred_16 : decode cX11_referred 16 = .ok (.ifCond .ne 5, 3) := by decide +kernel
theorem dX11_referred_19 : decode cX11_referred 19 = .ok (.iconst (-1), 1) := by decide +kernel
theorem dX11_referred_20 : decode cX11_referred 20 = .ok (.ireturn, 1) := by decide +kernel
theorem dX11_referred_21 : decode cX11_referred 21 = .ok (.aload_n 0, 1) := by decide +kernel
theorem dX11_referred_22 : decode cX11_referred 22 = .ok (.invokevirtual 219, 3) := by decide +kernel
theorem dX11_referred_25 : decode cX11_referred 25 = .ok (.iconst 0, 1) := by decide +kernel
theorem dX11_referred_26 : decode cX11_referred 26 = .ok (.istore_n 2, 1) := by decide +kernel
theorem dX11_referred_27 : decode cX11_referred 27 = .ok (.iload_n 2, 1) := by decide +kernel
theorem dX11_referred_28 : decode cX11_referred 28 = .ok (.aload_n 0, 1) := by decide +kernel
theorem dX11_referred_29 : decode cX11_referred 29 = .ok (.getfield 19, 3) := by decide +kernel
theorem dX11_referred_32 : decode cX11_referred 32 = .ok (.getfield 133, 3) := by decide +kernel
theorem dX11_referred_35 : decode cX11_referred 35 = .ok (.getfield 198, 3) := by decide +kernel
theorem dX11_referred_38 : decode cX11_referred 38 = .ok (.if_icmp .ge 35, 3) := by decide +kernel
theorem dX11_referred_41 : decode cX11_referred 41 = .ok (.aload_n 0, 1) := by decide +kernel
theorem dX11_referred_42 : decode cX11_referred 42 = .ok (.getfield 19, 3) := by decide +kernel
theorem dX11_referred_45 : decode cX11_referred 45 = .ok (.invokevirtual 194, 3) := by decide +kernel
theorem dX11_referred_48 : decode cX11_referred 48 = .ok (.iload_n 2, 1) := by decide +kernel
theorem dX11_referred_49 : decode cX11_referred 49 = .ok (.invokestatic 229, 3) := by decide +kernel
theorem dX11_referred_52 : decode cX11_referred 52 = .ok (.if_icmp .ne 15, 3) := by decide +kernel
theorem dX11_referred_55 : decode cX11_referred 55 = .ok (.aload_n 0, 1) := by decide +kernel
theorem dX11_referred_56 : decode cX11_referred 56 = .ok (.iload_n 2, 1) := by decide +kernel
theorem dX11_referred_57 : decode cX11_referred 57 = .ok (.iconst 0, 1) := by decide +kernel
theorem dX11_referred_58 : decode cX11_referred 58 = .ok (.invokevirtual 232, 3) := by decide +kernel
theorem dX11_referred_61 : decode cX11_referred 61 = .ok (.aload_n 0, 1) := by decide +kernel
theorem dX11_referred_62 : decode cX11_referred 62 = .ok (.iload_n 2, 1) := by decide +kernel
theorem dX11_referred_63 : decode cX11_referred 63 = .ok (.iconst 1, 1) := by decide +kernel
theorem dX11_referred_64 : decode cX11_referred 64 = .ok (.invokevirtual 232, 3) := by decide +kernel
theorem dX11_referred_67 : decode cX11_referred 67 = .ok (.iinc 2 1, 3) := by decide +kernel
theorem dX11_referred_70 : decode cX11_referred 70 = .ok (.goto (-43), 3) := by decide +kernel
theorem dX11_referred_73 : decode cX11_referred 73 = .ok (.aload_n 0, 1) := by decide +kernel
theorem dX11_referred_74 : decode cX11_referred 74 = .ok (.getfield 63, 3) := by decide +kernel
theorem dX11_referred_77 : decode cX11_referred 77 = .ok (.iload_n 1, 1) := by decide +kernel
theorem dX11_referred_78 : decode cX11_referred 78 = .ok (.invokestatic 164, 3) := by decide +kernel
theorem dX11_referred_81 : decode cX11_referred 81 = .ok (.ireturn, 1) := by decide +kernel
theorem dX11_seed_0 : decode cX11_seed 0 = .ok (.iload_n 1, 1) := by decide +kernel
theorem dX11_seed_1 : decode cX11_seed 1 = .ok (.ifCond .lt 10, 3) := by decide +kernel
theorem dX11_seed_4 : decode cX11_seed 4 = .ok (.iload_n 1, 1) := by decide +kernel
theorem dX11_seed_5 : decode cX11_seed 5 = .ok (.ldc_w 305, 3) := by decide +kernel
theorem dX11_seed_8 : decode cX11_seed 8 = .ok (.if_icmp .le 5, 3) := by decide +kernel
theorem dX11_seed_11 : decode cX11_seed 11 = .ok (.iconst 0, 1) := by decide +kernel
theorem dX11_seed_12 : decode cX11_seed 12 = .ok (.ireturn, 1) := by decide +kernel
theorem dX11_seed_13 : decode cX11_seed 13 = .ok (.aload_n 0, 1) := by decide +kernel
theorem dX11_seed_14 : decode cX11_seed 14 = .ok (.getfield 19, 3) := by decide +kernel
theorem dX11_seed_17 : decode cX11_seed 17 = .ok (.iload_n 1, 1) := by decide +kernel
theorem dX11_seed_18 : decode cX11_seed 18 = .ok (.putfield 306, 3) := by decide +kernel
theorem dX11_seed_21 : decode cX11_seed 21 = .ok (.iconst 1, 1) := by decide +kernel
theorem dX11_seed_22 : decode cX11_seed 22 = .ok (.ireturn, 1) := by decide +kernel
theorem dX11_slip_0 : decode cX11_slip 0 = .ok (.aload_n 0, 1) := by decide +kernel
theorem dX11_slip_1 : decode cX11_slip 1 = .ok (.getfield 19, 3) := by decide +kernel
theorem dX11_slip_4 : decode cX11_slip 4 = .ok (.getfield 133, 3) := by decide +kernel
theorem dX11_slip_7 : decode cX11_slip 7 = .ok (.iload_n 1, 1) := by decide +kernel
theorem dX11_slip_8 : decode cX11_slip 8 = .ok (.invokevirtual 155, 3) := by decide +kernel
theorem dX11_slip_11 : decode cX11_slip 11 = .ok (.ifCond .eq 14, 3) := by decide +kernel
theorem dX11_slip_14 : decode cX11_slip 14 = .ok (.aload_n 0, 1) := by decide +kernel
theorem dX11_slip_15 : decode cX11_slip 15 = .ok (.getfield 19, 3) := by decide +kernel
theorem dX11_slip_18 : decode cX11_slip 18 = .ok (.iload_n 2, 1) := by decide +kernel
theorem dX11_slip_19 : decode cX11_slip 19 = .ok (.invokevirtual 105, 3) := by decide +kernel
theorem dX11_slip_22 : decode cX11_slip 22 = .ok (.ifCond .ne 5, 3) := by decide +kernel
theorem dX11_slip_25 : decode cX11_slip 25 = .ok (.iconst (-1), 1) := by decide +kernel
theorem dX11_slip_26 : decode cX11_slip 26 = .ok (.ireturn, 1) := by decide +kernel
theorem dX11_slip_27 : decode cX11_slip 27 = .ok (.aload_n 0, 1) := by decide +kernel
theorem dX11_slip_28 : decode cX11_slip 28 = .ok (.getfield 19, 3) := by decide +kernel
theorem dX11_slip_31 : decode cX11_slip 31 = .ok (.getfield 133, 3) := by decide +kernel
theorem dX11_slip_34 : decode cX11_slip 34 = .ok (.getfield 178, 3) := by decide +kernel
theorem dX11_slip_37 : decode cX11_slip 37 = .ok (.aload_n 0, 1) := by decide +kernel
theorem dX11_slip_38 : decode cX11_slip 38 = .ok (.getfield 57, 3) := by decide +kernel
theorem dX11_slip_41 : decode cX11_slip 41 = .ok (.invokestatic 203, 3) := by decide +kernel
theorem dX11_slip_44 : decode cX11_slip 44 = .ok (.aload_n 0, 1) := by decide +kernel
theorem dX11_slip_45 : decode cX11_slip 45 = .ok (.getfield 19, 3) := by decide +kernel
theorem dX11_slip_48 : decode cX11_slip 48 = .ok (.iload_n 1, 1) := by decide +kernel
theorem dX11_slip_49 : decode cX11_slip 49 = .ok (.iload_n 2, 1) := by decide +kernel
theorem dX11_slip_50 : decode cX11_slip 50 = .ok (.aload_n 0, 1) := by decide +kernel
theorem dX11_slip_51 : decode cX11_slip 51 = .ok (.getfield 57, 3) := by decide +kernel
theorem dX11_slip_54 : decode cX11_slip 54 = .ok (.invokevirtual 207, 3) := by decide +kernel
theorem dX11_slip_57 : decode cX11_slip 57 = .ok (.aload_n 0, 1) := by decide +kernel
theorem dX11_slip_58 : decode cX11_slip 58 = .ok (.getfield 57, 3) := by decide +kernel
theorem dX11_slip_61 : decode cX11_slip 61 = .ok (.aload_n 0, 1) := by decide +kernel
theorem dX11_slip_62 : decode cX11_slip 62 = .ok (.getfield 19, 3) := by decide +kernel
theorem dX11_slip_65 : decode cX11_slip 65 = .ok (.getfield 133, 3) := by decide +kernel
theorem dX11_slip_68 : decode cX11_slip 68 = .ok (.invokevirtual 211, 3) := by decide +kernel
theorem dX11_slip_71 : decode cX11_slip 71 = .ok (.invokestatic 164, 3) := by decide +kernel
theorem dX11_slip_74 : decode cX11_slip 74 = .ok (.ireturn, 1) := by decide +kernel
theorem dX11_stands_0 : decode cX11_stands 0 = .ok (.aload_n 0, 1) := by decide +kernel
theorem dX11_stands_1 : decode cX11_stands 1 = .ok (.getfield 19, 3) := by decide +kernel
theorem dX11_stands_4 : decode cX11_stands 4 = .ok (.getfield 133, 3) := by decide +kernel
theorem dX11_stands_7 : decode cX11_stands 7 = .ok (.iload_n 1, 1) := by decide +kernel
theorem dX11_stands_8 : decode cX11_stands 8 = .ok (.invokevirtual 155, 3) := by decide +kernel
theorem dX11_stands_11 : decode cX11_stands 11 = .ok (.ifCond .eq 12, 3) := by decide +kernel
theorem dX11_stands_14 : decode cX11_stands 14 = .ok (.iload_n 2, 1) := by decide +kernel
theorem dX11_stands_15 : decode cX11_stands 15 = .ok (.ifCond .lt 8, 3) := by decide +kernel
theorem dX11_stands_18 : decode cX11_stands 18 = .ok (.iload_n 2, 1) := by decide +kernel
theorem dX11_stands_19 : decode cX11_stands 19 = .ok (.iconst 1, 1) := by decide +kernel
theorem dX11_stands_20 : decode cX11_stands 20 = .ok (.if_icmp .le 5, 3) := by decide +kernel
theorem dX11_stands_23 : decode cX11_stands 23 = .ok (.iconst (-1), 1) := by decide +kernel
theorem dX11_stands_24 : decode cX11_stands 24 = .ok (.ireturn, 1) := by decide +kernel
theorem dX11_stands_25 : decode cX11_stands 25 = .ok (.iload_n 2, 1) := by decide +kernel
theorem dX11_stands_26 : decode cX11_stands 26 = .ok (.ifCond .ne 17, 3) := by decide +kernel
theorem dX11_stands_29 : decode cX11_stands 29 = .ok (.aload_n 0, 1) := by decide +kernel
theorem dX11_stands_30 : decode cX11_stands 30 = .ok (.getfield 19, 3) := by decide +kernel
theorem dX11_stands_33 : decode cX11_stands 33 = .ok (.getfield 133, 3) := by decide +kernel
theorem dX11_stands_36 : decode cX11_stands 36 = .ok (.iload_n 1, 1) := by decide +kernel
theorem dX11_stands_37 : decode cX11_stands 37 = .ok (.invokevirtual 263, 3) := by decide +kernel
theorem dX11_stands_40 : decode cX11_stands 40 = .ok (.goto 17, 3) := by decide +kernel
theorem dX11_stands_43 : decode cX11_stands 43 = .ok (.aload_n 0, 1) := by decide +kernel
theorem dX11_stands_44 : decode cX11_stands 44 = .ok (.getfield 19, 3) := by decide +kernel
theorem dX11_stands_47 : decode cX11_stands 47 = .ok (.getfield 133, 3) := by decide +kernel
theorem dX11_stands_50 : decode cX11_stands 50 = .ok (.getfield 266, 3) := by decide +kernel
theorem dX11_stands_53 : decode cX11_stands 53 = .ok (.iload_n 1, 1) := by decide +kernel
theorem dX11_stands_54 : decode cX11_stands 54 = .ok (.invokestatic 164, 3) := by decide +kernel
theorem dX11_stands_57 : decode cX11_stands 57 = .ok (.ireturn, 1) := by decide +kernel
theorem dX11_undo_0 : decode cX11_undo 0 = .ok (.aload_n 0, 1) := by decide +kernel
theorem dX11_undo_1 : decode cX11_undo 1 = .ok (.getfield 26, 3) := by decide +kernel
theorem dX11_undo_4 : decode cX11_undo 4 = .ok (.ifCond .ne 5, 3) := by decide +kernel
theorem dX11_undo_7 : decode cX11_undo 7 = .ok (.iconst 0, 1) := by decide +kernel
theorem dX11_undo_8 : decode cX11_undo 8 = .ok (.ireturn, 1) := by decide +kernel
theorem dX11_undo_9 : decode cX11_undo 9 = .ok (.aload_n 0, 1) := by decide +kernel
theorem dX11_undo_10 : decode cX11_undo 10 = .ok (.getfield 19, 3) := by decide +kernel
theorem dX11_undo_13 : decode cX11_undo 13 = .ok (.aload_n 0, 1) := by decide +kernel
theorem dX11_undo_14 : decode cX11_undo 14 = .ok (.getfield 23, 3) := by decide +kernel
theorem dX11_undo_17 : decode cX11_undo 17 = .ok (.invokevirtual 332, 3) := by decide +kernel
theorem dX11_undo_20 : decode cX11_undo 20 = .ok (.iconst 1, 1) := by decide +kernel
theorem dX11_undo_21 : decode cX11_undo 21 = .ok (.ireturn, 1) := by decide +kernel
theorem dX11_unread_0 : decode cX11_unread 0 = .ok (.iload_n 1, 1) := by decide +kernel
theorem dX11_unread_1 : decode cX11_unread 1 = .ok (.invokestatic 242, 3) := by decide +kernel
theorem dX11_unread_4 : decode cX11_unread 4 = .ok (.ifCond .ne 5, 3) := by decide +kernel
theorem dX11_unread_7 : decode cX11_unread 7 = .ok (.iconst (-1), 1) := by decide +kernel
theorem dX11_unread_8 : decode cX11_unread 8 = .ok (.ireturn, 1) := by decide +kernel
theorem dX11_unread_9 : decode cX11_unread 9 = .ok (.aload_n 0, 1) := by decide +kernel
theorem dX11_unread_10 : decode cX11_unread 10 = .ok (.getfield 19, 3) := by decide +kernel
theorem dX11_unread_13 : decode cX11_unread 13 = .ok (.getfield 133, 3) := by decide +kernel
theorem dX11_unread_16 : decode cX11_unread 16 = .ok (.invokevirtual 249, 3) := by decide +kernel
theorem dX11_unread_19 : decode cX11_unread 19 = .ok (.istore_n 2, 1) := by decide +kernel
theorem dX11_unread_20 : decode cX11_unread 20 = .ok (.iconst 0, 1) := by decide +kernel
theorem dX11_unread_21 : decode cX11_unread 21 = .ok (.istore_n 3, 1) := by decide +kernel
theorem dX11_unread_22 : decode cX11_unread 22 = .ok (.iload_n 3, 1) := by decide +kernel
theorem dX11_unread_23 : decode cX11_unread 23 = .ok (.bipush 10, 2) := by decide +kernel
theorem dX11_unread_25 : decode cX11_unread 25 = .ok (.if_icmp .ge 27, 3) := by decide +kernel
theorem dX11_unread_28 : decode cX11_unread 28 = .ok (.iload_n 1, 1) := by decide +kernel
theorem dX11_unread_29 : decode cX11_unread 29 = .ok (.iload_n 3, 1) := by decide +kernel
theorem dX11_unread_30 : decode cX11_unread 30 = .ok (.invokestatic 252, 3) := by decide +kernel
theorem dX11_unread_33 : decode cX11_unread 33 = .ok (.ifCond .eq 13, 3) := by decide +kernel
theorem dX11_unread_36 : decode cX11_unread 36 = .ok (.iload_n 2, 1) := by decide +kernel
theorem dX11_unread_37 : decode cX11_unread 37 = .ok (.aload_n 0, 1) := by decide +kernel
theorem dX11_unread_38 : decode cX11_unread 38 = .ok (.iload_n 3, 1) := by decide +kernel
theorem dX11_unread_39 : decode cX11_unread 39 = .ok (.invokevirtual 236, 3) := by decide +kernel
theorem dX11_unread_42 : decode cX11_unread 42 = .ok (.iconst (-1), 1) := by decide +kernel
theorem dX11_unread_43 : decode cX11_unread 43 = .ok (.ixor, 1) := by decide +kernel
theorem dX11_unread_44 : decode cX11_unread 44 = .ok (.iand, 1) := by decide +kernel
theorem dX11_unread_45 : decode cX11_unread 45 = .ok (.istore_n 2, 1) := by decide +kernel
theorem dX11_unread_46 : decode cX11_unread 46 = .ok (.iinc 3 1, 3) := by decide +kernel
theorem dX11_unread_49 : decode cX11_unread 49 = .ok (.goto (-27), 3) := by decide +kernel
theorem dX11_unread_52 : decode cX11_unread 52 = .ok (.iload_n 2, 1) := by decide +kernel
theorem dX11_unread_53 : decode cX11_unread 53 = .ok (.ireturn, 1) := by decide +kernel
theorem dX11_untrue_0 : decode cX11_untrue 0 = .ok (.aload_n 0, 1) := by decide +kernel
theorem dX11_untrue_1 : decode cX11_untrue 1 = .ok (.getfield 19, 3) := by decide +kernel
theorem dX11_untrue_4 : decode cX11_untrue 4 = .ok (.iconst 0, 1) := by decide +kernel
theorem dX11_untrue_5 : decode cX11_untrue 5 = .ok (.aload_n 0, 1) := by decide +kernel
theorem dX11_untrue_6 : decode cX11_untrue 6 = .ok (.getfield 53, 3) := by decide +kernel
theorem dX11_untrue_9 : decode cX11_untrue 9 = .ok (.invokevirtual 174, 3) := by decide +kernel
theorem dX11_untrue_12 : decode cX11_untrue 12 = .ok (.aload_n 0, 1) := by decide +kernel
theorem dX11_untrue_13 : decode cX11_untrue 13 = .ok (.getfield 19, 3) := by decide +kernel
theorem dX11_untrue_16 : decode cX11_untrue 16 = .ok (.getfield 133, 3) := by decide +kernel
theorem dX11_untrue_19 : decode cX11_untrue 19 = .ok (.getfield 178, 3) := by decide +kernel
theorem dX11_untrue_22 : decode cX11_untrue 22 = .ok (.aload_n 0, 1) := by decide +kernel
theorem dX11_untrue_23 : decode cX11_untrue 23 = .ok (.getfield 53, 3) := by decide +kernel
theorem dX11_untrue_26 : decode cX11_untrue 26 = .ok (.aload_n 0, 1) := by decide +kernel
theorem dX11_untrue_27 : decode cX11_untrue 27 = .ok (.getfield 19, 3) := by decide +kernel
theorem dX11_untrue_30 : decode cX11_untrue 30 = .ok (.getfield 133, 3) := by decide +kernel
theorem dX11_untrue_33 : decode cX11_untrue 33 = .ok (.getfield 198, 3) := by decide +kernel
theorem dX11_untrue_36 : decode cX11_untrue 36 = .ok (.invokestatic 199, 3) := by decide +kernel
theorem dX11_untrue_39 : decode cX11_untrue 39 = .ok (.ireturn, 1) := by decide +kernel
theorem dX11_within_0 : decode cX11_within 0 = .ok (.iload_n 1, 1) := by decide +kernel
theorem dX11_within_1 : decode cX11_within 1 = .ok (.iload_n 2, 1) := by decide +kernel
theorem dX11_within_2 : decode cX11_within 2 = .ok (.iload_n 0, 1) := by decide +kernel
theorem dX11_within_3 : decode cX11_within 3 = .ok (.invokestatic 381, 3) := by decide +kernel
theorem dX11_within_6 : decode cX11_within 6 = .ok (.invokestatic 369, 3) := by decide +kernel
theorem dX11_within_9 : decode cX11_within 9 = .ok (.ireturn, 1) := by decide +kernel
theorem dX11_wrong_0 : decode cX11_wrong 0 = .ok (.aload_n 0, 1) := by decide +kernel
theorem dX11_wrong_1 : decode cX11_wrong 1 = .ok (.getfield 19, 3) := by decide +kernel
theorem dX11_wrong_4 : decode cX11_wrong 4 = .ok (.invokevirtual 194, 3) := by decide +kernel
theorem dX11_wrong_7 : decode cX11_wrong 7 = .ok (.ireturn, 1) := by decide +kernel
