theorem dX0_answer_0 : decode cX0_answer 0 = .ok (.aload_n 0, 1) := by decide +kernel
theorem dX0_answer_1 : decode cX0_answer 1 = .ok (.getfield 21, 3) := by decide +kernel
theorem dX0_answer_4 : decode cX0_answer 4 = .ok (.iconst 0, 1) := by decide +kernel
theorem dX0_answer_5 : decode cX0_answer 5 = .ok (.iconst 0, 1) := by decide +kernel
theorem dX0_answer_6 : decode cX0_answer 6 = .ok (.invokestatic 24, 3) := by decide +kernel
theorem dX0_answer_9 : decode cX0_answer 9 = .ok (.aload_n 1, 1) := by decide +kernel
theorem dX0_answer_10 : decode cX0_answer 10 = .ok (.iconst 0, 1) := by decide +kernel
theorem dX0_answer_11 : decode cX0_answer 11 = .ok (.aload_n 0, 1) := by decide +kernel
theorem dX0_answer_12 : decode cX0_answer 12 = .ok (.getfield 9, 3) := by decide +kernel
theorem dX0_answer_15 : decode cX0_answer 15 = .ok (.invokevirtual 28, 3) := by decide +kernel
theorem dX0_answer_18 : decode cX0_answer 18 = .ok (.aload_n 1, 1) := by decide +kernel
theorem dX0_answer_19 : decode cX0_answer 19 = .ok (.getfield 34, 3) := by decide +kernel
theorem dX0_answer_22 : decode cX0_answer 22 = .ok (.invokevirtual 38, 3) := by decide +kernel
theorem dX0_answer_25 : decode cX0_answer 25 = .ok (.istore_n 3, 1) := by decide +kernel
theorem dX0_answer_26 : decode cX0_answer 26 = .ok (.iconst 0, 1) := by decide +kernel
theorem dX0_answer_27 : decode cX0_answer 27 = .ok (.istore 4, 2) := by decide +kernel
theorem dX0_answer_29 : decode cX0_answer 29 = .ok (.iload 4, 2) := by decide +kernel
theorem dX0_answer_31 : decode cX0_answer 31 = .ok (.iload_n 3, 1) := by decide +kernel
theorem dX0_answer_32 : decode cX0_answer 32 = .ok (.if_icmp .ge 112, 3) := by decide +kernel
theorem dX0_answer_35 : decode cX0_answer 35 = .ok (.iconst 0, 1) := by decide +kernel
theorem dX0_answer_36 : decode cX0_answer 36 = .ok (.istore 5, 2) := by decide +kernel
theorem dX0_answer_38 : decode cX0_answer 38 = .ok (.iload 5, 2) := by decide +kernel
theorem dX0_answer_40 : decode cX0_answer 40 = .ok (.aload_n 1, 1) := by decide +kernel
theorem dX0_answer_41 : decode cX0_answer 41 = .ok (.getfield 44, 3) := by decide +kernel
theorem dX0_answer_44 : decode cX0_answer 44 = .ok (.if_icmp .ge 94, 3) := by decide +kernel
theorem dX0_answer_47 : decode cX0_answer 47 = .ok (.aload_n 0, 1) := by decide +kernel
theorem dX0_answer_48 : decode cX0_answer 48 = .ok (.getfield 9, 3) := by decide +kernel
theorem dX0_answer_51 : decode cX0_answer 51 = .ok (.aload_n 0, 1) := by decide +kernel
theorem dX0_answer_52 : decode cX0_answer 52 = .ok (.getfield 15, 3) := by decide +kernel
theorem dX0_answer_55 : decode cX0_answer 55 = .ok (.invokestatic 48, 3) := by decide +kernel
theorem dX0_answer_58 : decode cX0_answer 58 = .ok (.aload_n 1, 1) := by decide +kernel
theorem dX0_answer_59 : decode cX0_answer 59 = .ok (.iload 4, 2) := by decide +kernel
theorem dX0_answer_61 : decode cX0_answer 61 = .ok (.iload 5, 2) := by decide +kernel
theorem dX0_answer_63 : decode cX0_answer 63 = .ok (.aload_n 0, 1) := by decide +kernel
theorem dX0_answer_64 : decode cX0_answer 64 = .ok (.getfield 15, 3) := by decide +kernel
theorem dX0_answer_67 : decode cX0_answer 67 = .ok (.invokevirtual 52, 3) := by decide +kernel
theorem dX0_answer_70 : decode cX0_answer 70 = .ok (.aload_n 0, 1) := by decide +kernel
theorem dX0_answer_71 : decode cX0_answer 71 = .ok (.getfield 15, 3) := by decide +kernel
theorem dX0_answer_74 : decode cX0_answer 74 = .ok (.iload_n 3, 1) := by decide +kernel
theorem dX0_answer_75 : decode cX0_answer 75 = .ok (.invokestatic 56, 3) := by decide +kernel
theorem dX0_answer_78 : decode cX0_answer 78 = .ok (.aload_n 0, 1) := by decide +kernel
theorem dX0_answer_79 : decode cX0_answer 79 = .ok (.getfield 9, 3) := by decide +kernel
theorem dX0_answer_82 : decode cX0_answer 82 = .ok (.iload_n 3, 1) := by decide +kernel
theorem dX0_answer_83 : decode cX0_answer 83 = .ok (.invokestatic 56, 3) := by decide +kernel
theorem dX0_answer_86 : decode cX0_answer 86 = .ok (.if_icmp .eq 22, 3) := by decide +kernel
theorem dX0_answer_89 : decode cX0_answer 89 = .ok (.aload_n 0, 1) := by decide +kernel
theorem dX0_answer_90 : decode cX0_answer 90 = .ok (.aload_n 1, 1) := by decide +kernel
theorem dX0_answer_91 : decode cX0_answer 91 = .ok (.iload 4, 2) := by decide +kernel
theorem dX0_answer_93 : decode cX0_answer 93 = .ok (.iload 5, 2) := by decide +kernel
theorem dX0_answer_95 : decode cX0_answer 95 = .ok (.iload_n 2, 1) := by decide +kernel
theorem dX0_answer_96 : decode cX0_answer 96 = .ok (.ifCond .ne 8, 3) := by decide +kernel
theorem dX0_answer_99 : decode cX0_answer 99 = .ok (.ldc 62, 2) := by decide +kernel
theorem dX0_answer_101 : decode cX0_answer 101 = .ok (.goto 4, 3) := by decide +kernel
theorem dX0_answer_104 : decode cX0_answer 104 = .ok (.iconst 1, 1) := by decide +kernel
theorem dX0_answer_105 : decode cX0_answer 105 = .ok (.invokevirtual 63, 3) := by decide +kernel
theorem dX0_answer_108 : decode cX0_answer 108 = .ok (.iload_n 2, 1) := by decide +kernel
theorem dX0_answer_109 : decode cX0_answer 109 = .ok (.ifCond .le 23, 3) := by decide +kernel
theorem dX0_answer_112 : decode cX0_answer 112 = .ok (.aload_n 0, 1) := by decide +kernel
theorem dX0_answer_113 : decode cX0_answer 113 = .ok (.getfield 21, 3) := by decide +kernel
theorem dX0_answer_116 : decode cX0_answer 116 = .ok (.iconst 0, 1) := by decide +kernel
theorem dX0_answer_117 : decode cX0_answer 117 = .ok (.invokestatic 56, 3) := by decide +kernel
theorem dX0_answer_120 : decode cX0_answer 120 = .ok (.ifCond .le 12, 3) := by decide +kernel
theorem dX0_answer_123 : decode cX0_answer 123 = .ok (.aload_n 0, 1) := by decide +kernel
theorem dX0_answer_124 : decode cX0_answer 124 = .ok (.getfield 21, 3) := by decide +kernel
theorem dX0_answer_127 : decode cX0_answer 127 = .ok (.iload_n 2, 1) := by decide +kernel
theorem dX0_answer_128 : decode cX0_answer 128 = .ok (.invokestatic 56, 3) := by decide +kernel
theorem dX0_answer_131 : decode cX0_answer 131 = .ok (.ireturn, 1) := by decide +kernel
theorem dX0_answer_132 : decode cX0_answer 132 = .ok (.iinc 5 1, 3) := by decide +kernel
theorem dX0_answer_135 : decode cX0_answer 135 = .ok (.goto (-97), 3) := by decide +kernel
theorem dX0_answer_138 : decode cX0_answer 138 = .ok (.iinc 4 1, 3) := by decide +kernel
theorem dX0_answer_141 : decode cX0_answer 141 = .ok (.goto (-112), 3) := by decide +kernel
theorem dX0_answer_144 : decode cX0_answer 144 = .ok (.iload_n 2, 1) := by decide +kernel
theorem dX0_answer_145 : decode cX0_answer 145 = .ok (.ifCond .ne 14, 3) := by decide +kernel
theorem dX0_answer_148 : decode cX0_answer 148 = .ok (.aload_n 0, 1) := by decide +kernel
theorem dX0_answer_149 : decode cX0_answer 149 = .ok (.getfield 21, 3) := by decide +kernel
theorem dX0_answer_152 : decode cX0_answer 152 = .ok (.iconst 0, 1) := by decide +kernel
theorem dX0_answer_153 : decode cX0_answer 153 = .ok (.invokestatic 56, 3) := by decide +kernel
theorem dX0_answer_156 : decode cX0_answer 156 = .ok (.goto 5, 3) := by decide +kernel
theorem dX0_answer_159 : decode cX0_answer 159 = .ok (.bipush (-2), 2) := by decide +kernel
theorem dX0_answer_161 : decode cX0_answer 161 = .ok (.ireturn, 1) := by decide +kernel
theorem dX0_between_0 : decode cX0_between 0 = .ok (.aload_n 0, 1) := by decide +kernel
theorem dX0_between_1 : decode cX0_between 1 = .ok (.invokevirtual 38, 3) := by decide +kernel
theorem dX0_between_4 : decode cX0_between 4 = .ok (.istore_n 2, 1) := by decide +kernel
theorem dX0_between_5 : decode cX0_between 5 = .ok (.aload_n 0, 1) := by decide +kernel
theorem dX0_between_6 : decode cX0_between 6 = .ok (.iload_n 1, 1) := by decide +kernel
theorem dX0_between_7 : decode cX0_between 7 = .ok (.invokevirtual 78, 3) := by decide +kernel
theorem dX0_between_10 : decode cX0_between 10 = .ok (.aload_n 0, 1) := by decide +kernel
theorem dX0_between_11 : decode cX0_between 11 = .ok (.getfield 82, 3) := by decide +kernel
theorem dX0_between_14 : decode cX0_between 14 = .ok (.iload_n 2, 1) := by decide +kernel
theorem dX0_between_15 : decode cX0_between 15 = .ok (.invokestatic 56, 3) := by decide +kernel
theorem dX0_between_18 : decode cX0_between 18 = .ok (.iload_n 2, 1) := by decide +kernel
theorem dX0_between_19 : decode cX0_between 19 = .ok (.invokestatic 85, 3) := by decide +kernel
theorem dX0_between_22 : decode cX0_between 22 = .ok (.ior, 1) := by decide +kernel
theorem dX0_between_23 : decode cX0_between 23 = .ok (.iand, 1) := by decide +kernel
theorem dX0_between_24 : decode cX0_between 24 = .ok (.ireturn, 1) := by decide +kernel
theorem dX0_cancels_0 : decode cX0_cancels 0 = .ok (.aload_n 1, 1) := by decide +kernel
theorem dX0_cancels_1 : decode cX0_cancels 1 = .ok (.getfield 34, 3) := by decide +kernel
theorem dX0_cancels_4 : decode cX0_cancels 4 = .ok (.invokevirtual 38, 3) := by decide +kernel
theorem dX0_cancels_7 : decode cX0_cancels 7 = .ok (.istore 5, 2) := by decide +kernel
theorem dX0_cancels_9 : decode cX0_cancels 9 = .ok (.aload_n 0, 1) := by decide +kernel
theorem dX0_cancels_10 : decode cX0_cancels 10 = .ok (.getfield 18, 3) := by decide +kernel
theorem dX0_cancels_13 : decode cX0_cancels 13 = .ok (.iload_n 2, 1) := by decide +kernel
theorem dX0_cancels_14 : decode cX0_cancels 14 = .ok (.iload_n 3, 1) := by decide +kernel
theorem dX0_cancels_15 : decode cX0_cancels 15 = .ok (.invokestatic 24, 3) := by decide +kernel
theorem dX0_cancels_18 : decode cX0_cancels 18 = .ok (.iload_n 2, 1) := by decide +kernel
theorem dX0_cancels_19 : decode cX0_cancels 19 = .ok (.iconst 1, 1) := by decide +kernel
theorem dX0_cancels_20 : decode cX0_cancels 20 = .ok (.iadd, 1) := by decide +kernel
theorem dX0_cancels_21 : decode cX0_cancels 21 = .ok (.istore 6, 2) := by decide +kernel
theorem dX0_cancels_23 : decode cX0_cancels 23 = .ok (.iload 6, 2) := by decide +kernel
theorem dX0_cancels_25 : decode cX0_cancels 25 = .ok (.iload 5, 2) := by decide +kernel
theorem dX0_cancels_27 : decode cX0_cancels 27 = .ok (.if_icmp .gt 38, 3) := by decide +kernel
theorem dX0_cancels_30 : decode cX0_cancels 30 = .ok (.iload 4, 2) := by decide +kernel
theorem dX0_cancels_32 : decode cX0_cancels 32 = .ok (.iload 6, 2) := by decide +kernel
theorem dX0_cancels_34 : decode cX0_cancels 34 = .ok (.invokestatic 88, 3) := by decide +kernel
theorem dX0_cancels_37 : decode cX0_cancels 37 = .ok (.ifCond .eq 22, 3) := by decide +kernel
theorem dX0_cancels_40 : decode cX0_cancels 40 = .ok (.aload_n 0, 1) := by decide +kernel
theorem dX0_cancels_41 : decode cX0_cancels 41 = .ok (.getfield 18, 3) := by decide +kernel
theorem dX0_cancels_44 : decode cX0_cancels 44 = .ok (.iload 6, 2) := by decide +kernel
theorem dX0_cancels_46 : decode cX0_cancels 46 = .ok (.aload_n 1, 1) := by decide +kernel
theorem dX0_cancels_47 : decode cX0_cancels 47 = .ok (.iload 6, 2) := by decide +kernel
theorem dX0_cancels_49 : decode cX0_cancels 49 = .ok (.aload_n 0, 1) := by decide +kernel
theorem dX0_cancels_50 : decode cX0_cancels 50 = .ok (.getfield 18, 3) := by decide +kernel
theorem dX0_cancels_53 : decode cX0_cancels 53 = .ok (.invokevirtual 92, 3) := by decide +kernel
theorem dX0_cancels_56 : decode cX0_cancels 56 = .ok (.invokestatic 24, 3) := by decide +kernel
theorem dX0_cancels_59 : decode cX0_cancels 59 = .ok (.iinc 6 1, 3) := by decide +kernel
theorem dX0_cancels_62 : decode cX0_cancels 62 = .ok (.goto (-39), 3) := by decide +kernel
theorem dX0_cancels_65 : decode cX0_cancels 65 = .ok (.aload_n 0, 1) := by decide +kernel
theorem dX0_cancels_66 : decode cX0_cancels 66 = .ok (.getfield 18, 3) := by decide +kernel
theorem dX0_cancels_69 : decode cX0_cancels 69 = .ok (.iload 5, 2) := by decide +kernel
theorem dX0_cancels_71 : decode cX0_cancels 71 = .ok (.invokestatic 56, 3) := by decide +kernel
theorem dX0_cancels_74 : decode cX0_cancels 74 = .ok (.aload_n 0, 1) := by decide +kernel
theorem dX0_cancels_75 : decode cX0_cancels 75 = .ok (.getfield 9, 3) := by decide +kernel
theorem dX0_cancels_78 : decode cX0_cancels 78 = .ok (.iload 5, 2) := by decide +kernel
theorem dX0_cancels_80 : decode cX0_cancels 80 = .ok (.invokestatic 56, 3) := by decide +kernel
theorem dX0_cancels_83 : decode cX0_cancels 83 = .ok (.if_icmp .ne 7, 3) := by decide +kernel
theorem dX0_cancels_86 : decode cX0_cancels 86 = .ok (.iconst 1, 1) := by decide +kernel
theorem dX0_cancels_87 : decode cX0_cancels 87 = .ok (.goto 4, 3) := by decide +kernel
theorem dX0_cancels_90 : decode cX0_cancels 90 = .ok (.iconst 0, 1) := by decide +kernel
theorem dX0_cancels_91 : decode cX0_cancels 91 = .ok (.ireturn, 1) := by decide +kernel
theorem dX0_init_0 : decode cX0_init 0 = .ok (.aload_n 0, 1) := by decide +kernel
theorem dX0_init_1 : decode cX0_init 1 = .ok (.invokespecial 3, 3) := by decide +kernel
theorem dX0_init_4 : decode cX0_init 4 = .ok (.aload_n 0, 1) := by decide +kernel
theorem dX0_init_5 : decode cX0_init 5 = .ok (.bipush 20, 2) := by decide +kernel
theorem dX0_init_7 : decode cX0_init 7 = .ok (.newarray .int, 2) := by decide +kernel
theorem dX0_init_9 : decode cX0_init 9 = .ok (.putfield 9, 3) := by decide +kernel
theorem dX0_init_12 : decode cX0_init 12 = .ok (.aload_n 0, 1) := by decide +kernel
theorem dX0_init_13 : decode cX0_init 13 = .ok (.bipush 20, 2) := by decide +kernel
theorem dX0_init_15 : decode cX0_init 15 = .ok (.newarray .int, 2) := by decide +kernel
theorem dX0_init_17 : decode cX0_init 17 = .ok (.putfield 15, 3) := by decide +kernel
theorem dX0_init_20 : decode cX0_init 20 = .ok (.aload_n 0, 1) := by decide +kernel
theorem dX0_init_21 : decode cX0_init 21 = .ok (.bipush 20, 2) := by decide +kernel
theorem dX0_init_23 : decode cX0_init 23 = .ok (.newarray .int, 2) := by decide +kernel
theorem dX0_init_25 : decode cX0_init 25 = .ok (.putfield 18, 3) := by decide +kernel
theorem dX0_init_28 : decode cX0_init 28 = .ok (.aload_n 0, 1) := by decide +kernel
theorem dX0_init_29 : decode cX0_init 29 = .ok (.iconst 5, 1) := by decide +kernel
theorem dX0_init_30 : decode cX0_init 30 = .ok (.newarray .int, 2) := by decide +kernel
theorem dX0_init_32 : decode cX0_init 32 = .ok (.putfield 21, 3) := by decide +kernel
theorem dX0_init_35 : decode cX0_init 35 = .ok (.return_, 1) := by decide +kernel
theorem dX0_trySeconds_0 : decode cX0_trySeconds 0 = .ok (.iload_n 2, 1) := by decide +kernel
theorem dX0_trySeconds_1 : decode cX0_trySeconds 1 = .ok (.iconst 1, 1) := by decide +kernel
theorem dX0_trySeconds_2 : decode cX0_trySeconds 2 = .ok (.iadd, 1) := by decide +kernel
theorem dX0_trySeconds_3 : decode cX0_trySeconds 3 = .ok (.istore 5, 2) := by decide +kernel
theorem dX0_trySeconds_5 : decode cX0_trySeconds 5 = .ok (.iload 5, 2) := by decide +kernel
theorem dX0_trySeconds_7 : decode cX0_trySeconds 7 = .ok (.aload_n 1, 1) := by decide +kernel
theorem dX0_trySeconds_8 : decode cX0_trySeconds 8 = .ok (.getfield 34, 3) := by decide +kernel
theorem dX0_trySeconds_11 : decode cX0_trySeconds 11 = .ok (.getfield 67, 3) := by decide +kernel
theorem dX0_trySeconds_14 : decode cX0_trySeconds 14 = .ok (.if_icmp .ge 146, 3) := by decide +kernel
theorem dX0_trySeconds_17 : decode cX0_trySeconds 17 = .ok (.aload_n 1, 1) := by decide +kernel
theorem dX0_trySeconds_18 : decode cX0_trySeconds 18 = .ok (.getfield 34, 3) := by decide +kernel
theorem dX0_trySeconds_21 : decode cX0_trySeconds 21 = .ok (.iload 5, 2) := by decide +kernel
theorem dX0_trySeconds_23 : decode cX0_trySeconds 23 = .ok (.invokestatic 70, 3) := by decide +kernel
theorem dX0_trySeconds_26 : decode cX0_trySeconds 26 = .ok (.istore 6, 2) := by decide +kernel
theorem dX0_trySeconds_28 : decode cX0_trySeconds 28 = .ok (.aload_n 0, 1) := by decide +kernel
theorem dX0_trySeconds_29 : decode cX0_trySeconds 29 = .ok (.getfield 15, 3) := by decide +kernel
theorem dX0_trySeconds_32 : decode cX0_trySeconds 32 = .ok (.aload_n 0, 1) := by decide +kernel
theorem dX0_trySeconds_33 : decode cX0_trySeconds 33 = .ok (.getfield 18, 3) := by decide +kernel
theorem dX0_trySeconds_36 : decode cX0_trySeconds 36 = .ok (.invokestatic 48, 3) := by decide +kernel
theorem dX0_trySeconds_39 : decode cX0_trySeconds 39 = .ok (.iconst 0, 1) := by decide +kernel
theorem dX0_trySeconds_40 : decode cX0_trySeconds 40 = .ok (.istore 7, 2) := by decide +kernel
theorem dX0_trySeconds_42 : decode cX0_trySeconds 42 = .ok (.iload 7, 2) := by decide +kernel
theorem dX0_trySeconds_44 : decode cX0_trySeconds 44 = .ok (.aload_n 1, 1) := by decide +kernel
theorem dX0_trySeconds_45 : decode cX0_trySeconds 45 = .ok (.getfield 44, 3) := by decide +kernel
theorem dX0_trySeconds_48 : decode cX0_trySeconds 48 = .ok (.if_icmp .ge 106, 3) := by decide +kernel
theorem dX0_trySeconds_51 : decode cX0_trySeconds 51 = .ok (.aload_n 0, 1) := by decide +kernel
theorem dX0_trySeconds_52 : decode cX0_trySeconds 52 = .ok (.getfield 21, 3) := by decide +kernel
theorem dX0_trySeconds_55 : decode cX0_trySeconds 55 = .ok (.iconst 0, 1) := by decide +kernel
theorem dX0_trySeconds_56 : decode cX0_trySeconds 56 = .ok (.invokestatic 56, 3) := by decide +kernel
theorem dX0_trySeconds_59 : decode cX0_trySeconds 59 = .ok (.iload 4, 2) := by decide +kernel
theorem dX0_trySeconds_61 : decode cX0_trySeconds 61 = .ok (.if_icmp .ge 93, 3) := by decide +kernel
theorem dX0_trySeconds_64 : decode cX0_trySeconds 64 = .ok (.iload 7, 2) := by decide +kernel
theorem dX0_trySeconds_66 : decode cX0_trySeconds 66 = .ok (.aload_n 0, 1) := by decide +kernel
theorem dX0_trySeconds_67 : decode cX0_trySeconds 67 = .ok (.getfield 15, 3) := by decide +kernel
theorem dX0_trySeconds_70 : decode cX0_trySeconds 70 = .ok (.iload 5, 2) := by decide +kernel
theorem dX0_trySeconds_72 : decode cX0_trySeconds 72 = .ok (.invokestatic 56, 3) := by decide +kernel
theorem dX0_trySeconds_75 : decode cX0_trySeconds 75 = .ok (.if_icmp .eq 73, 3) := by decide +kernel
theorem dX0_trySeconds_78 : decode cX0_trySeconds 78 = .ok (.aload_n 0, 1) := by decide +kernel
theorem dX0_trySeconds_79 : decode cX0_trySeconds 79 = .ok (.aload_n 1, 1) := by decide +kernel
theorem dX0_trySeconds_80 : decode cX0_trySeconds 80 = .ok (.iload 5, 2) := by decide +kernel
theorem dX0_trySeconds_82 : decode cX0_trySeconds 82 = .ok (.iload 7, 2) := by decide +kernel
theorem dX0_trySeconds_84 : decode cX0_trySeconds 84 = .ok (.iload 6, 2) := by decide +kernel
theorem dX0_trySeconds_86 : decode cX0_trySeconds 86 = .ok (.invokevirtual 74, 3) := by decide +kernel
theorem dX0_trySeconds_89 : decode cX0_trySeconds 89 = .ok (.ifCond .eq 59, 3) := by decide +kernel
theorem dX0_trySeconds_92 : decode cX0_trySeconds 92 = .ok (.aload_n 0, 1) := by decide +kernel
theorem dX0_trySeconds_93 : decode cX0_trySeconds 93 = .ok (.getfield 21, 3) := by decide +kernel
theorem dX0_trySeconds_96 : decode cX0_trySeconds 96 = .ok (.iconst 0, 1) := by decide +kernel
theorem dX0_trySeconds_97 : decode cX0_trySeconds 97 = .ok (.aload_n 0, 1) := by decide +kernel
theorem dX0_trySeconds_98 : decode cX0_trySeconds 98 = .ok (.getfield 21, 3) := by decide +kernel
theorem dX0_trySeconds_101 : decode cX0_trySeconds 101 = .ok (.iconst 0, 1) := by decide +kernel
theorem dX0_trySeconds_102 : decode cX0_trySeconds 102 = .ok (.invokestatic 56, 3) := by decide +kernel
theorem dX0_trySeconds_105 : decode cX0_trySeconds 105 = .ok (.iconst 1, 1) := by decide +kernel
theorem dX0_trySeconds_106 : decode cX0_trySeconds 106 = .ok (.iadd, 1) := by decide +kernel
theorem dX0_trySeconds_107 : decode cX0_trySeconds 107 = .ok (.invokestatic 24, 3) := by decide +kernel
theorem dX0_trySeconds_110 : decode cX0_trySeconds 110 = .ok (.aload_n 0, 1) := by decide +kernel
theorem dX0_trySeconds_111 : decode cX0_trySeconds 111 = .ok (.getfield 21, 3) := by decide +kernel
theorem dX0_trySeconds_114 : decode cX0_trySeconds 114 = .ok (.iconst 1, 1) := by decide +kernel
theorem dX0_trySeconds_115 : decode cX0_trySeconds 115 = .ok (.iload_n 2, 1) := by decide +kernel
theorem dX0_trySeconds_116 : decode cX0_trySeconds 116 = .ok (.invokestatic 24, 3) := by decide +kernel
theorem dX0_trySeconds_119 : decode cX0_trySeconds 119 = .ok (.aload_n 0, 1) := by decide +kernel
theorem dX0_trySeconds_120 : decode cX0_trySeconds 120 = .ok (.getfield 21, 3) := by decide +kernel
theorem dX0_trySeconds_123 : decode cX0_trySeconds 123 = .ok (.iconst 2, 1) := by decide +kernel
theorem dX0_trySeconds_124 : decode cX0_trySeconds 124 = .ok (.iload_n 3, 1) := by decide +kernel
theorem dX0_trySeconds_125 : decode cX0_trySeconds 125 = .ok (.invokestatic 24, 3) := by decide +kernel
theorem dX0_trySeconds_128 : decode cX0_trySeconds 128 = .ok (.aload_n 0, 1) := by decide +kernel
theorem dX0_trySeconds_129 : decode cX0_trySeconds 129 = .ok (.getfield 21, 3) := by decide +kernel
theorem dX0_trySeconds_132 : decode cX0_trySeconds 132 = .ok (.iconst 3, 1) := by decide +kernel
theorem dX0_trySeconds_133 : decode cX0_trySeconds 133 = .ok (.iload 5, 2) := by decide +kernel
theorem dX0_trySeconds_135 : decode cX0_trySeconds 135 = .ok (.invokestatic 24, 3) := by decide +kernel
theorem dX0_trySeconds_138 : decode cX0_trySeconds 138 = .ok (.aload_n 0, 1) := by decide +kernel
theorem dX0_trySeconds_139 : decode cX0_trySeconds 139 = .ok (.getfield 21, 3) := by decide +kernel
theorem dX0_trySeconds_142 : decode cX0_trySeconds 142 = .ok (.iconst 4, 1) := by decide +kernel
theorem dX0_trySeconds_143 : decode cX0_trySeconds 143 = .ok (.iload 7, 2) := by decide +kernel
theorem dX0_trySeconds_145 : decode cX0_trySeconds 145 = .ok (.invokestatic 24, 3) := by decide +kernel
theorem dX0_trySeconds_148 : decode cX0_trySeconds 148 = .ok (.iinc 7 1, 3) := by decide +kernel
theorem dX0_trySeconds_151 : decode cX0_trySeconds 151 = .ok (.goto (-109), 3) := by decide +kernel
theorem dX0_trySeconds_154 : decode cX0_trySeconds 154 = .ok (.iinc 5 1, 3) := by decide +kernel
theorem dX0_trySeconds_157 : decode cX0_trySeconds 157 = .ok (.goto (-152), 3) := by decide +kernel
theorem dX0_trySeconds_160 : decode cX0_trySeconds 160 = .ok (.return_, 1) := by decide +kernel
theorem dX10_among_0 : decode cX10_among 0 = .ok (.aload_n 0, 1) := by decide +kernel
theorem dX10_among_1 : decode cX10_among 1 = .ok (.getfield 22, 3) := by decide +kernel
theorem dX10_among_4 : decode cX10_among 4 = .ok (.ifCond .ge 7, 3) := by decide +kernel
theorem dX10_among_7 : decode cX10_among 7 = .ok (.iconst (-1), 1) := by decide +kernel
theorem dX10_among_8 : decode cX10_among 8 = .ok (.goto 12, 3) := by decide +kernel
theorem dX10_among_11 : decode cX10_among 11 = .ok (.aload_n 1, 1) := by decide +kernel
theorem dX10_among_12 : decode cX10_among 12 = .ok (.aload_n 0, 1) := by decide +kernel
theorem dX10_among_13 : decode cX10_among 13 = .ok (.getfield 22, 3) := by decide +kernel
theorem dX10_among_16 : decode cX10_among 16 = .ok (.i2c, 1) := by decide +kernel
theorem dX10_among_17 : decode cX10_among 17 = .ok (.invokevirtual 42, 3) := by decide +kernel
theorem dX10_among_20 : decode cX10_among 20 = .ok (.ireturn, 1) := by decide +kernel
theorem dX10_append_0 : decode cX10_append 0 = .ok (.bipush 24, 2) := by decide +kernel
theorem dX10_append_2 : decode cX10_append 2 = .ok (.istore_n 2, 1) := by decide +kernel
theorem dX10_append_3 : decode cX10_append 3 = .ok (.iload_n 2, 1) := by decide +kernel
theorem dX10_append_4 : decode cX10_append 4 = .ok (.ifCond .lt 37, 3) := by decide +kernel
theorem dX10_append_7 : decode cX10_append 7 = .ok (.aload_n 0, 1) := by decide +kernel
theorem dX10_append_8 : decode cX10_append 8 = .ok (.getfield 9, 3) := by decide +kernel
theorem dX10_append_11 : decode cX10_append 11 = .ok (.aload_n 0, 1) := by decide +kernel
theorem dX10_append_12 : decode cX10_append 12 = .ok (.getfield 15, 3) := by decide +kernel
theorem dX10_append_15 : decode cX10_append 15 = .ok (.iload_n 1, 1) := by decide +kernel
theorem dX10_append_16 : decode cX10_append 16 = .ok (.iload_n 2, 1) := by decide +kernel
theorem dX10_append_17 : decode cX10_append 17 = .ok (.ishr, 1) := by decide +kernel
theorem dX10_append_18 : decode cX10_append 18 = .ok (.sipush 255, 3) := by decide +kernel
theorem dX10_append_21 : decode cX10_append 21 = .ok (.iand, 1) := by decide +kernel
theorem dX10_append_22 : decode cX10_append 22 = .ok (.invokestatic 31, 3) := by decide +kernel
theorem dX10_append_25 : decode cX10_append 25 = .ok (.aload_n 0, 1) := by decide +kernel
theorem dX10_append_26 : decode cX10_append 26 = .ok (.dup, 1) := by decide +kernel
theorem dX10_append_27 : decode cX10_append 27 = .ok (.getfield 15, 3) := by decide +kernel
theorem dX10_append_30 : decode cX10_append 30 = .ok (.iconst 1, 1) := by decide +kernel
theorem dX10_append_31 : decode cX10_append 31 = .ok (.iadd, 1) := by decide +kernel
theorem dX10_append_32 : decode cX10_append 32 = .ok (.putfield 15, 3) := by decide +kernel
theorem dX10_append_35 : decode cX10_append 35 = .ok (.iinc 2 (-8), 3) := by decide +kernel
theorem dX10_append_38 : decode cX10_append 38 = .ok (.goto (-35), 3) := by decide +kernel
theorem dX10_append_41 : decode cX10_append 41 = .ok (.return_, 1) := by decide +kernel
theorem dX10_beginText_0 : decode cX10_beginText 0 = .ok (.aload_n 0, 1) := by decide +kernel
theorem dX10_beginText_1 : decode cX10_beginText 1 = .ok (.iload_n 1, 1) := by decide +kernel
theorem dX10_beginText_2 : decode cX10_beginText 2 = .ok (.putfield 28, 3) := by decide +kernel
theorem dX10_beginText_5 : decode cX10_beginText 5 = .ok (.aload_n 0, 1) := by decide +kernel
theorem dX10_beginText_6 : decode cX10_beginText 6 = .ok (.iconst 0, 1) := by decide +kernel
theorem dX10_beginText_7 : decode cX10_beginText 7 = .ok (.putfield 25, 3) := by decide +kernel
theorem dX10_beginText_10 : decode cX10_beginText 10 = .ok (.aload_n 0, 1) := by decide +kernel
theorem dX10_beginText_11 : decode cX10_beginText 11 = .ok (.iconst (-1), 1) := by decide +kernel
theorem dX10_beginText_12 : decode cX10_beginText 12 = .ok (.putfield 19, 3) := by decide +kernel
theorem dX10_beginText_15 : decode cX10_beginText 15 = .ok (.aload_n 0, 1) := by decide +kernel
theorem dX10_beginText_16 : decode cX10_beginText 16 = .ok (.invokevirtual 39, 3) := by decide +kernel
theorem dX10_beginText_19 : decode cX10_beginText 19 = .ok (.return_, 1) := by decide +kernel
theorem dX10_clear_0 : decode cX10_clear 0 = .ok (.aload_n 0, 1) := by decide +kernel
theorem dX10_clear_1 : decode cX10_clear 1 = .ok (.iconst 0, 1) := by decide +kernel
theorem dX10_clear_2 : decode cX10_clear 2 = .ok (.putfield 15, 3) := by decide +kernel
theorem dX10_clear_5 : decode cX10_clear 5 = .ok (.return_, 1) := by decide +kernel
theorem dX10_expect_0 : decode cX10_expect 0 = .ok (.aload_n 0, 1) := by decide +kernel
theorem dX10_expect_1 : decode cX10_expect 1 = .ok (.getfield 22, 3) := by decide +kernel
theorem dX10_expect_4 : decode cX10_expect 4 = .ok (.iload_n 1, 1) := by decide +kernel
theorem dX10_expect_5 : decode cX10_expect 5 = .ok (.if_icmp .ne 10, 3) := by decide +kernel
theorem dX10_expect_8 : decode cX10_expect 8 = .ok (.aload_n 0, 1) := by decide +kernel
theorem dX10_expect_9 : decode cX10_expect 9 = .ok (.invokevirtual 39, 3) := by decide +kernel
theorem dX10_expect_12 : decode cX10_expect 12 = .ok (.goto 7, 3) := by decide +kernel
theorem dX10_expect_15 : decode cX10_expect 15 = .ok (.aload_n 0, 1) := by decide +kernel
theorem dX10_expect_16 : decode cX10_expect 16 = .ok (.invokevirtual 48, 3) := by decide +kernel
theorem dX10_expect_19 : decode cX10_expect 19 = .ok (.return_, 1) := by decide +kernel
theorem dX10_fail_0 : decode cX10_fail 0 = .ok (.aload_n 0, 1) := by decide +kernel
theorem dX10_fail_1 : decode cX10_fail 1 = .ok (.getfield 25, 3) := by decide +kernel
theorem dX10_fail_4 : decode cX10_fail 4 = .ok (.ifCond .ne 14, 3) := by decide +kernel
theorem dX10_fail_7 : decode cX10_fail 7 = .ok (.aload_n 0, 1) := by decide +kernel
theorem dX10_fail_8 : decode cX10_fail 8 = .ok (.sipush 1000, 3) := by decide +kernel
theorem dX10_fail_11 : decode cX10_fail 11 = .ok (.iload_n 1, 1) := by decide +kernel
theorem dX10_fail_12 : decode cX10_fail 12 = .ok (.imul, 1) := by decide +kernel
theorem dX10_fail_13 : decode cX10_fail 13 = .ok (.iload_n 2, 1) := by decide +kernel
theorem dX10_fail_14 : decode cX10_fail 14 = .ok (.iadd, 1) := by decide +kernel
theorem dX10_fail_15 : decode cX10_fail 15 = .ok (.putfield 25, 3) := by decide +kernel
theorem dX10_fail_18 : decode cX10_fail 18 = .ok (.return_, 1) := by decide +kernel
theorem dX10_failHere_0 : decode cX10_failHere 0 = .ok (.aload_n 0, 1) := by decide +kernel
theorem dX10_failHere_1 : decode cX10_failHere 1 = .ok (.getfield 25, 3) := by decide +kernel
theorem dX10_failHere_4 : decode cX10_failHere 4 = .ok (.ifCond .ne 15, 3) := by decide +kernel
theorem dX10_failHere_7 : decode cX10_failHere 7 = .ok (.aload_n 0, 1) := by decide +kernel
theorem dX10_failHere_8 : decode cX10_failHere 8 = .ok (.sipush 1000, 3) := by decide +kernel
theorem dX10_failHere_11 : decode cX10_failHere 11 = .ok (.aload_n 0, 1) := by decide +kernel
theorem dX10_failHere_12 : decode cX10_failHere 12 = .ok (.getfield 19, 3) := by decide +kernel
theorem dX10_failHere_15 : decode cX10_failHere 15 = .ok (.iadd, 1) := by decide +kernel
theorem dX10_failHere_16 : decode cX10_failHere 16 = .ok (.putfield 25, 3) := by decide +kernel
theorem dX10_failHere_19 : decode cX10_failHere 19 = .ok (.return_, 1) := by decide +kernel
theorem dX10_init_0 : decode cX10_init 0 = .ok (.aload_n 0, 1) := by decide +kernel
theorem dX10_init_1 : decode cX10_init 1 = .ok (.invokespecial 3, 3) := by decide +kernel
theorem dX10_init_4 : decode cX10_init 4 = .ok (.aload_n 0, 1) := by decide +kernel
theorem dX10_init_5 : decode cX10_init 5 = .ok (.sipush 220, 3) := by decide +kernel
theorem dX10_init_8 : decode cX10_init 8 = .ok (.newarray .int, 2) := by decide +kernel
theorem dX10_init_10 : decode cX10_init 10 = .ok (.putfield 9, 3) := by decide +kernel
theorem dX10_init_13 : decode cX10_init 13 = .ok (.aload_n 0, 1) := by decide +kernel
theorem dX10_init_14 : decode cX10_init 14 = .ok (.iconst 0, 1) := by decide +kernel
theorem dX10_init_15 : decode cX10_init 15 = .ok (.putfield 15, 3) := by decide +kernel
theorem dX10_init_18 : decode cX10_init 18 = .ok (.aload_n 0, 1) := by decide +kernel
theorem dX10_init_19 : decode cX10_init 19 = .ok (.iconst 0, 1) := by decide +kernel
theorem dX10_init_20 : decode cX10_init 20 = .ok (.putfield 19, 3) := by decide +kernel
theorem dX10_init_23 : decode cX10_init 23 = .ok (.aload_n 0, 1) := by decide +kernel
theorem dX10_init_24 : decode cX10_init 24 = .ok (.iconst (-1), 1) := by decide +kernel
theorem dX10_init_25 : decode cX10_init 25 = .ok (.putfield 22, 3) := by decide +kernel
theorem dX10_init_28 : decode cX10_init 28 = .ok (.aload_n 0, 1) := by decide +kernel
theorem dX10_init_29 : decode cX10_init 29 = .ok (.iconst 0, 1) := by decide +kernel
theorem dX10_init_30 : decode cX10_init 30 = .ok (.putfield 25, 3) := by decide +kernel
theorem dX10_init_33 : decode cX10_init 33 = .ok (.aload_n 0, 1) := by decide +kernel
theorem dX10_init_34 : decode cX10_init 34 = .ok (.iconst 0, 1) := by decide +kernel
theorem dX10_init_35 : decode cX10_init 35 = .ok (.putfield 28, 3) := by decide +kernel
theorem dX10_init_38 : decode cX10_init 38 = .ok (.return_, 1) := by decide +kernel
theorem dX10_isAtDigit_0 : decode cX10_isAtDigit 0 = .ok (.aload_n 0, 1) := by decide +kernel
theorem dX10_isAtDigit_1 : decode cX10_isAtDigit 1 = .ok (.getfield 22, 3) := by decide +kernel
theorem dX10_isAtDigit_4 : decode cX10_isAtDigit 4 = .ok (.bipush 48, 2) := by decide +kernel
theorem dX10_isAtDigit_6 : decode cX10_isAtDigit 6 = .ok (.if_icmp .lt 16, 3) := by decide +kernel
theorem dX10_isAtDigit_9 : decode cX10_isAtDigit 9 = .ok (.aload_n 0, 1) := by decide +kernel
theorem dX10_isAtDigit_10 : decode cX10_isAtDigit 10 = .ok (.getfield 22, 3) := by decide +kernel
theorem dX10_isAtDigit_13 : decode cX10_isAtDigit 13 = .ok (.bipush 57, 2) := by decide +kernel
theorem dX10_isAtDigit_15 : decode cX10_isAtDigit 15 = .ok (.if_icmp .gt 7, 3) := by decide +kernel
theorem dX10_isAtDigit_18 : decode cX10_isAtDigit 18 = .ok (.iconst 1, 1) := by decide +kernel
theorem dX10_isAtDigit_19 : decode cX10_isAtDigit 19 = .ok (.goto 4, 3) := by decide +kernel
theorem dX10_isAtDigit_22 : decode cX10_isAtDigit 22 = .ok (.iconst 0, 1) := by decide +kernel
theorem dX10_isAtDigit_23 : decode cX10_isAtDigit 23 = .ok (.ireturn, 1) := by decide +kernel
theorem dX10_isAtEnd_0 : decode cX10_isAtEnd 0 = .ok (.aload_n 0, 1) := by decide +kernel
theorem dX10_isAtEnd_1 : decode cX10_isAtEnd 1 = .ok (.getfield 19, 3) := by decide +kernel
theorem dX10_isAtEnd_4 : decode cX10_isAtEnd 4 = .ok (.aload_n 0, 1) := by decide +kernel
theorem dX10_isAtEnd_5 : decode cX10_isAtEnd 5 = .ok (.getfield 28, 3) := by decide +kernel
theorem dX10_isAtEnd_8 : decode cX10_isAtEnd 8 = .ok (.if_icmp .lt 7, 3) := by decide +kernel
theorem dX10_isAtEnd_11 : decode cX10_isAtEnd 11 = .ok (.iconst 1, 1) := by decide +kernel
theorem dX10_isAtEnd_12 : decode cX10_isAtEnd 12 = .ok (.goto 4, 3) := by decide +kernel
theorem dX10_isAtEnd_15 : decode cX10_isAtEnd 15 = .ok (.iconst 0, 1) := by decide +kernel
theorem dX10_isAtEnd_16 : decode cX10_isAtEnd 16 = .ok (.ireturn, 1) := by decide +kernel
theorem dX10_isSound_0 : decode cX10_isSound 0 = .ok (.aload_n 0, 1) := by decide +kernel
theorem dX10_isSound_1 : decode cX10_isSound 1 = .ok (.getfield 25, 3) := by decide +kernel
theorem dX10_isSound_4 : decode cX10_isSound 4 = .ok (.ifCond .ne 7, 3) := by decide +kernel
theorem dX10_isSound_7 : decode cX10_isSound 7 = .ok (.iconst 1, 1) := by decide +kernel
theorem dX10_isSound_8 : decode cX10_isSound 8 = .ok (.goto 4, 3) := by decide +kernel
theorem dX10_isSound_11 : decode cX10_isSound 11 = .ok (.iconst 0, 1) := by decide +kernel
theorem dX10_isSound_12 : decode cX10_isSound 12 = .ok (.ireturn, 1) := by decide +kernel
theorem dX10_number_0 : decode cX10_number 0 = .ok (.iconst 0, 1) := by decide +kernel
theorem dX10_number_1 : decode cX10_number 1 = .ok (.istore_n 2, 1) := by decide +kernel
theorem dX10_number_2 : decode cX10_number 2 = .ok (.iconst 0, 1) := by decide +kernel
theorem dX10_number_3 : decode cX10_number 3 = .ok (.istore_n 3, 1) := by decide +kernel
theorem dX10_number_4 : decode cX10_number 4 = .ok (.iload_n 3, 1) := by decide +kernel
theorem dX10_number_5 : decode cX10_number 5 = .ok (.iconst 4, 1) := by decide +kernel
theorem dX10_number_6 : decode cX10_number 6 = .ok (.if_icmp .ge 27, 3) := by decide +kernel
theorem dX10_number_9 : decode cX10_number 9 = .ok (.iload_n 2, 1) := by decide +kernel
theorem dX10_number_10 : decode cX10_number 10 = .ok (.bipush 8, 2) := by decide +kernel
theorem dX10_number_12 : decode cX10_number 12 = .ok (.ishl, 1) := by decide +kernel
theorem dX10_number_13 : decode cX10_number 13 = .ok (.aload_n 0, 1) := by decide +kernel
theorem dX10_number_14 : decode cX10_number 14 = .ok (.getfield 9, 3) := by decide +kernel
theorem dX10_number_17 : decode cX10_number 17 = .ok (.iconst 4, 1) := by decide +kernel
theorem dX10_number_18 : decode cX10_number 18 = .ok (.iload_n 1, 1) := by decide +kernel
theorem dX10_number_19 : decode cX10_number 19 = .ok (.imul, 1) := by decide +kernel
theorem dX10_number_20 : decode cX10_number 20 = .ok (.iload_n 3, 1) := by decide +kernel
theorem dX10_number_21 : decode cX10_number 21 = .ok (.iadd, 1) := by decide +kernel
theorem dX10_number_22 : decode cX10_number 22 = .ok (.invokestatic 35, 3) := by decide +kernel
theorem dX10_number_25 : decode cX10_number 25 = .ok (.ior, 1) := by decide +kernel
theorem dX10_number_26 : decode cX10_number 26 = .ok (.istore_n 2, 1) := by decide +kernel
theorem dX10_number_27 : decode cX10_number 27 = .ok (.iinc 3 1, 3) := by decide +kernel
theorem dX10_number_30 : decode cX10_number 30 = .ok (.goto (-26), 3) := by decide +kernel
theorem dX10_number_33 : decode cX10_number 33 = .ok (.iload_n 2, 1) := by decide +kernel
theorem dX10_number_34 : decode cX10_number 34 = .ok (.ireturn, 1) := by decide +kernel
theorem dX10_step_0 : decode cX10_step 0 = .ok (.aload_n 0, 1) := by decide +kernel
theorem dX10_step_1 : decode cX10_step 1 = .ok (.dup, 1) := by decide +kernel
theorem dX10_step_2 : decode cX10_step 2 = .ok (.getfield 19, 3) := by decide +kernel
theorem dX10_step_5 : decode cX10_step 5 = .ok (.iconst 1, 1) := by decide +kernel
theorem dX10_step_6 : decode cX10_step 6 = .ok (.iadd, 1) := by decide +kernel
theorem dX10_step_7 : decode cX10_step 7 = .ok (.putfield 19, 3) := by decide +kernel
theorem dX10_step_10 : decode cX10_step 10 = .ok (.aload_n 0, 1) := by decide +kernel
theorem dX10_step_11 : decode cX10_step 11 = .ok (.aload_n 0, 1) := by decide +kernel
theorem dX10_step_12 : decode cX10_step 12 = .ok (.getfield 19, 3) := by decide +kernel
theorem dX10_step_15 : decode cX10_step 15 = .ok (.ifCond .lt 38, 3) := by decide +kernel
theorem dX10_step_18 : decode cX10_step 18 = .ok (.aload_n 0, 1) := by decide +kernel
theorem dX10_step_19 : decode cX10_step 19 = .ok (.getfield 19, 3) := by decide +kernel
theorem dX10_step_22 : decode cX10_step 22 = .ok (.aload_n 0, 1) := by decide +kernel
theorem dX10_step_23 : decode cX10_step 23 = .ok (.getfield 28, 3) := by decide +kernel
theorem dX10_step_26 : decode cX10_step 26 = .ok (.if_icmp .ge 27, 3) := by decide +kernel
theorem dX10_step_29 : decode cX10_step 29 = .ok (.aload_n 0, 1) := by decide +kernel
theorem dX10_step_30 : decode cX10_step 30 = .ok (.getfield 19, 3) := by decide +kernel
theorem dX10_step_33 : decode cX10_step 33 = .ok (.aload_n 0, 1) := by decide +kernel
theorem dX10_step_34 : decode cX10_step 34 = .ok (.getfield 9, 3) := by decide +kernel
theorem dX10_step_37 : decode cX10_step 37 = .ok (.arraylength, 1) := by decide +kernel
theorem dX10_step_38 : decode cX10_step 38 = .ok (.if_icmp .ge 15, 3) := by decide +kernel
theorem dX10_step_41 : decode cX10_step 41 = .ok (.aload_n 0, 1) := by decide +kernel
theorem dX10_step_42 : decode cX10_step 42 = .ok (.getfield 9, 3) := by decide +kernel
theorem dX10_step_45 : decode cX10_step 45 = .ok (.aload_n 0, 1) := by decide +kernel
theorem dX10_step_46 : decode cX10_step 46 = .ok (.getfield 19, 3) := by decide +kernel
theorem dX10_step_49 : decode cX10_step 49 = .ok (.iaload, 1) := by decide +kernel
theorem dX10_step_50 : decode cX10_step 50 = .ok (.goto 4, 3) := by decide +kernel
theorem dX10_step_53 : decode cX10_step 53 = .ok (.iconst (-1), 1) := by decide +kernel
theorem dX10_step_54 : decode cX10_step 54 = .ok (.putfield 22, 3) := by decide +kernel
theorem dX10_step_57 : decode cX10_step 57 = .ok (.return_, 1) := by decide +kernel
theorem dX1_allComeFrom_0 : decode cX1_allComeFrom 0 = .ok (.aload_n 0, 1) := by decide +kernel
theorem dX1_allComeFrom_1 : decode cX1_allComeFrom 1 = .ok (.getfield 28, 3) := by decide +kernel
theorem dX1_allComeFrom_4 : decode cX1_allComeFrom 4 = .ok (.istore_n 2, 1) := by decide +kernel
theorem dX1_allComeFrom_5 : decode cX1_allComeFrom 5 = .ok (.iconst 0, 1) := by decide +kernel
theorem dX1_allComeFrom_6 : decode cX1_allComeFrom 6 = .ok (.istore_n 3, 1) := by decide +kernel
theorem dX1_allComeFrom_7 : decode cX1_allComeFrom 7 = .ok (.iload_n 3, 1) := by decide +kernel
theorem dX1_allComeFrom_8 : decode cX1_allComeFrom 8 = .ok (.aload_n 0, 1) := by decide +kernel
theorem dX1_allComeFrom_9 : decode cX1_allComeFrom 9 = .ok (.getfield 21, 3) := by decide +kernel
theorem dX1_allComeFrom_12 : decode cX1_allComeFrom 12 = .ok (.if_icmp .ge 49, 3) := by decide +kernel
theorem dX1_allComeFrom_15 : decode cX1_allComeFrom 15 = .ok (.iload_n 2, 1) := by decide +kernel
theorem dX1_allComeFrom_16 : decode cX1_allComeFrom 16 = .ok (.ifCond .eq 45, 3) := by decide +kernel
theorem dX1_allComeFrom_19 : decode cX1_allComeFrom 19 = .ok (.aload_n 0, 1) := by decide +kernel
theorem dX1_allComeFrom_20 : decode cX1_allComeFrom 20 = .ok (.iload_n 3, 1) := by decide +kernel
theorem dX1_allComeFrom_21 : decode cX1_allComeFrom 21 = .ok (.aload_n 1, 1) := by decide +kernel
theorem dX1_allComeFrom_22 : decode cX1_allComeFrom 22 = .ok (.invokevirtual 57, 3) := by decide +kernel
theorem dX1_allComeFrom_25 : decode cX1_allComeFrom 25 = .ok (.istore 4, 2) := by decide +kernel
theorem dX1_allComeFrom_27 : decode cX1_allComeFrom 27 = .ok (.iload 4, 2) := by decide +kernel
theorem dX1_allComeFrom_29 : decode cX1_allComeFrom 29 = .ok (.aload_n 0, 1) := by decide +kernel
theorem dX1_allComeFrom_30 : decode cX1_allComeFrom 30 = .ok (.getfield 25, 3) := by decide +kernel
theorem dX1_allComeFrom_33 : decode cX1_allComeFrom 33 = .ok (.if_icmp .eq 16, 3) := by decide +kernel
theorem dX1_allComeFrom_36 : decode cX1_allComeFrom 36 = .ok (.iload 4, 2) := by decide +kernel
theorem dX1_allComeFrom_38 : decode cX1_allComeFrom 38 = .ok (.aload_n 0, 1) := by decide +kernel
theorem dX1_allComeFrom_39 : decode cX1_allComeFrom 39 = .ok (.getfield 15, 3) := by decide +kernel
theorem dX1_allComeFrom_42 : decode cX1_allComeFrom 42 = .ok (.iload_n 3, 1) := by decide +kernel
theorem dX1_allComeFrom_43 : decode cX1_allComeFrom 43 = .ok (.invokestatic 41, 3) := by decide +kernel
theorem dX1_allComeFrom_46 : decode cX1_allComeFrom 46 = .ok (.if_icmp .lt 7, 3) := by decide +kernel
theorem dX1_allComeFrom_49 : decode cX1_allComeFrom 49 = .ok (.iconst 1, 1) := by decide +kernel
theorem dX1_allComeFrom_50 : decode cX1_allComeFrom 50 = .ok (.goto 4, 3) := by decide +kernel
theorem dX1_allComeFrom_53 : decode cX1_allComeFrom 53 = .ok (.iconst 0, 1) := by decide +kernel
theorem dX1_allComeFrom_54 : decode cX1_allComeFrom 54 = .ok (.istore_n 2, 1) := by decide +kernel
theorem dX1_allComeFrom_55 : decode cX1_allComeFrom 55 = .ok (.iinc 3 1, 3) := by decide +kernel
theorem dX1_allComeFrom_58 : decode cX1_allComeFrom 58 = .ok (.goto (-51), 3) := by decide +kernel
theorem dX1_allComeFrom_61 : decode cX1_allComeFrom 61 = .ok (.iload_n 2, 1) := by decide +kernel
theorem dX1_allComeFrom_62 : decode cX1_allComeFrom 62 = .ok (.ireturn, 1) := by decide +kernel
theorem dX1_firstOther_0 : decode cX1_firstOther 0 = .ok (.iconst 0, 1) := by decide +kernel
theorem dX1_firstOther_1 : decode cX1_firstOther 1 = .ok (.istore_n 3, 1) := by decide +kernel
theorem dX1_firstOther_2 : decode cX1_firstOther 2 = .ok (.iload_n 3, 1) := by decide +kernel
theorem dX1_firstOther_3 : decode cX1_firstOther 3 = .ok (.aload_n 0, 1) := by decide +kernel
theorem dX1_firstOther_4 : decode cX1_firstOther 4 = .ok (.getfield 25, 3) := by decide +kernel
theorem dX1_firstOther_7 : decode cX1_firstOther 7 = .ok (.if_icmp .ge 32, 3) := by decide +kernel
theorem dX1_firstOther_10 : decode cX1_firstOther 10 = .ok (.aload_n 0, 1) := by decide +kernel
theorem dX1_firstOther_11 : decode cX1_firstOther 11 = .ok (.getfield 9, 3) := by decide +kernel
theorem dX1_firstOther_14 : decode cX1_firstOther 14 = .ok (.iload_n 1, 1) := by decide +kernel
theorem dX1_firstOther_15 : decode cX1_firstOther 15 = .ok (.bipush 20, 2) := by decide +kernel
theorem dX1_firstOther_17 : decode cX1_firstOther 17 = .ok (.imul, 1) := by decide +kernel
theorem dX1_firstOther_18 : decode cX1_firstOther 18 = .ok (.iload_n 3, 1) := by decide +kernel
theorem dX1_firstOther_19 : decode cX1_firstOther 19 = .ok (.iadd, 1) := by decide +kernel
theorem dX1_firstOther_20 : decode cX1_firstOther 20 = .ok (.invokestatic 41, 3) := by decide +kernel
theorem dX1_firstOther_23 : decode cX1_firstOther 23 = .ok (.aload_n 2, 1) := by decide +kernel
theorem dX1_firstOther_24 : decode cX1_firstOther 24 = .ok (.iload_n 3, 1) := by decide +kernel
theorem dX1_firstOther_25 : decode cX1_firstOther 25 = .ok (.invokestatic 41, 3) := by decide +kernel
theorem dX1_firstOther_28 : decode cX1_firstOther 28 = .ok (.if_icmp .eq 5, 3) := by decide +kernel
theorem dX1_firstOther_31 : decode cX1_firstOther 31 = .ok (.iload_n 3, 1) := by decide +kernel
theorem dX1_firstOther_32 : decode cX1_firstOther 32 = .ok (.ireturn, 1) := by decide +kernel
theorem dX1_firstOther_33 : decode cX1_firstOther 33 = .ok (.iinc 3 1, 3) := by decide +kernel
theorem dX1_firstOther_36 : decode cX1_firstOther 36 = .ok (.goto (-34), 3) := by decide +kernel
theorem dX1_firstOther_39 : decode cX1_firstOther 39 = .ok (.aload_n 0, 1) := by decide +kernel
theorem dX1_firstOther_40 : decode cX1_firstOther 40 = .ok (.getfield 25, 3) := by decide +kernel
theorem dX1_firstOther_43 : decode cX1_firstOther 43 = .ok (.ireturn, 1) := by decide +kernel
theorem dX1_init_0 : decode cX1_init 0 = .ok (.aload_n 0, 1) := by decide +kernel
theorem dX1_init_1 : decode cX1_init 1 = .ok (.invokespecial 3, 3) := by decide +kernel
theorem dX1_init_4 : decode cX1_init 4 = .ok (.aload_n 0, 1) := by decide +kernel
theorem dX1_init_5 : decode cX1_init 5 = .ok (.bipush 100, 2) := by decide +kernel
theorem dX1_init_7 : decode cX1_init 7 = .ok (.newarray .int, 2) := by decide +kernel
theorem dX1_init_9 : decode cX1_init 9 = .ok (.putfield 9, 3) := by decide +kernel
theorem dX1_init_12 : decode cX1_init 12 = .ok (.aload_n 0, 1) := by decide +kernel
theorem dX1_init_13 : decode cX1_init 13 = .ok (.iconst 5, 1) := by decide +kernel
theorem dX1_init_14 : decode cX1_init 14 = .ok (.newarray .int, 2) := by decide +kernel
theorem dX1_init_16 : decode cX1_init 16 = .ok (.putfield 15, 3) := by decide +kernel
theorem dX1_init_19 : decode cX1_init 19 = .ok (.aload_n 0, 1) := by decide +kernel
theorem dX1_init_20 : decode cX1_init 20 = .ok (.bipush 20, 2) := by decide +kernel
theorem dX1_init_22 : decode cX1_init 22 = .ok (.newarray .int, 2) := by decide +kernel
theorem dX1_init_24 : decode cX1_init 24 = .ok (.putfield 18, 3) := by decide +kernel
theorem dX1_init_27 : decode cX1_init 27 = .ok (.aload_n 0, 1) := by decide +kernel
theorem dX1_init_28 : decode cX1_init 28 = .ok (.iconst 0, 1) := by decide +kernel
theorem dX1_init_29 : decode cX1_init 29 = .ok (.putfield 21, 3) := by decide +kernel
theorem dX1_init_32 : decode cX1_init 32 = .ok (.aload_n 0, 1) := by decide +kernel
theorem dX1_init_33 : decode cX1_init 33 = .ok (.iconst 0, 1) := by decide +kernel
theorem dX1_init_34 : decode cX1_init 34 = .ok (.putfield 25, 3) := by decide +kernel
theorem dX1_init_37 : decode cX1_init 37 = .ok (.aload_n 0, 1) := by decide +kernel
theorem dX1_init_38 : decode cX1_init 38 = .ok (.iconst 1, 1) := by decide +kernel
theorem dX1_init_39 : decode cX1_init 39 = .ok (.putfield 28, 3) := by decide +kernel
theorem dX1_init_42 : decode cX1_init 42 = .ok (.return_, 1) := by decide +kernel
theorem dX1_takeFrom_0 : decode cX1_takeFrom 0 = .ok (.aload_n 0, 1) := by decide +kernel
theorem dX1_takeFrom_1 : decode cX1_takeFrom 1 = .ok (.iload_n 2, 1) := by decide +kernel
theorem dX1_takeFrom_2 : decode cX1_takeFrom 2 = .ok (.putfield 21, 3) := by decide +kernel
theorem dX1_takeFrom_5 : decode cX1_takeFrom 5 = .ok (.aload_n 0, 1) := by decide +kernel
theorem dX1_takeFrom_6 : decode cX1_takeFrom 6 = .ok (.aload_n 3, 1) := by decide +kernel
theorem dX1_takeFrom_7 : decode cX1_takeFrom 7 = .ok (.getfield 32, 3) := by decide +kernel
theorem dX1_takeFrom_10 : decode cX1_takeFrom 10 = .ok (.getfield 38, 3) := by decide +kernel
theorem dX1_takeFrom_13 : decode cX1_takeFrom 13 = .ok (.putfield 25, 3) := by decide +kernel
theorem dX1_takeFrom_16 : decode cX1_takeFrom 16 = .ok (.aload_n 0, 1) := by decide +kernel
theorem dX1_takeFrom_17 : decode cX1_takeFrom 17 = .ok (.iconst 1, 1) := by decide +kernel
theorem dX1_takeFrom_18 : decode cX1_takeFrom 18 = .ok (.putfield 28, 3) := by decide +kernel
theorem dX1_takeFrom_21 : decode cX1_takeFrom 21 = .ok (.iconst 0, 1) := by decide +kernel
theorem dX1_takeFrom_22 : decode cX1_takeFrom 22 = .ok (.istore 4, 2) := by decide +kernel
theorem dX1_takeFrom_24 : decode cX1_takeFrom 24 = .ok (.iload 4, 2) := by decide +kernel
theorem dX1_takeFrom_26 : decode cX1_takeFrom 26 = .ok (.iload_n 2, 1) := by decide +kernel
theorem dX1_takeFrom_27 : decode cX1_takeFrom 27 = .ok (.if_icmp .ge 129, 3) := by decide +kernel
theorem dX1_takeFrom_30 : decode cX1_takeFrom 30 = .ok (.iconst (-1), 1) := by decide +kernel
theorem dX1_takeFrom_31 : decode cX1_takeFrom 31 = .ok (.istore 5, 2) := by decide +kernel
theorem dX1_takeFrom_33 : decode cX1_takeFrom 33 = .ok (.iconst 0, 1) := by decide +kernel
theorem dX1_takeFrom_34 : decode cX1_takeFrom 34 = .ok (.istore 6, 2) := by decide +kernel
theorem dX1_takeFrom_36 : decode cX1_takeFrom 36 = .ok (.iload 6, 2) := by decide +kernel
theorem dX1_takeFrom_38 : decode cX1_takeFrom 38 = .ok (.aload_n 0, 1) := by decide +kernel
theorem dX1_takeFrom_39 : decode cX1_takeFrom 39 = .ok (.getfield 25, 3) := by decide +kernel
theorem dX1_takeFrom_42 : decode cX1_takeFrom 42 = .ok (.if_icmp .ge 97, 3) := by decide +kernel
theorem dX1_takeFrom_45 : decode cX1_takeFrom 45 = .ok (.aload_n 1, 1) := by decide +kernel
theorem dX1_takeFrom_46 : decode cX1_takeFrom 46 = .ok (.iload 4, 2) := by decide +kernel
theorem dX1_takeFrom_48 : decode cX1_takeFrom 48 = .ok (.aload_n 0, 1) := by decide +kernel
theorem dX1_takeFrom_49 : decode cX1_takeFrom 49 = .ok (.getfield 25, 3) := by decide +kernel
theorem dX1_takeFrom_52 : decode cX1_takeFrom 52 = .ok (.imul, 1) := by decide +kernel
theorem dX1_takeFrom_53 : decode cX1_takeFrom 53 = .ok (.iload 6, 2) := by decide +kernel
theorem dX1_takeFrom_55 : decode cX1_takeFrom 55 = .ok (.iadd, 1) := by decide +kernel
theorem dX1_takeFrom_56 : decode cX1_takeFrom 56 = .ok (.invokestatic 41, 3) := by decide +kernel
theorem dX1_takeFrom_59 : decode cX1_takeFrom 59 = .ok (.istore 7, 2) := by decide +kernel
theorem dX1_takeFrom_61 : decode cX1_takeFrom 61 = .ok (.aload_n 0, 1) := by decide +kernel
theorem dX1_takeFrom_62 : decode cX1_takeFrom 62 = .ok (.aload_n 0, 1) := by decide +kernel
theorem dX1_takeFrom_63 : decode cX1_takeFrom 63 = .ok (.getfield 28, 3) := by decide +kernel
theorem dX1_takeFrom_66 : decode cX1_takeFrom 66 = .ok (.ifCond .eq 16, 3) := by decide +kernel
theorem dX1_takeFrom_69 : decode cX1_takeFrom 69 = .ok (.aload_n 3, 1) := by decide +kernel
theorem dX1_takeFrom_70 : decode cX1_takeFrom 70 = .ok (.iload 7, 2) := by decide +kernel
theorem dX1_takeFrom_72 : decode cX1_takeFrom 72 = .ok (.invokevirtual 45, 3) := by decide +kernel
theorem dX1_takeFrom_75 : decode cX1_takeFrom 75 = .ok (.ifCond .eq 7, 3) := by decide +kernel
theorem dX1_takeFrom_78 : decode cX1_takeFrom 78 = .ok (.iconst 1, 1) := by decide +kernel
theorem dX1_takeFrom_79 : decode cX1_takeFrom 79 = .ok (.goto 4, 3) := by decide +kernel
theorem dX1_takeFrom_82 : decode cX1_takeFrom 82 = .ok (.iconst 0, 1) := by decide +kernel
theorem dX1_takeFrom_83 : decode cX1_takeFrom 83 = .ok (.putfield 28, 3) := by decide +kernel
theorem dX1_takeFrom_86 : decode cX1_takeFrom 86 = .ok (.aload_n 0, 1) := by decide +kernel
theorem dX1_takeFrom_87 : decode cX1_takeFrom 87 = .ok (.getfield 18, 3) := by decide +kernel
theorem dX1_takeFrom_90 : decode cX1_takeFrom 90 = .ok (.iload 6, 2) := by decide +kernel
theorem dX1_takeFrom_92 : decode cX1_takeFrom 92 = .ok (.iload 7, 2) := by decide +kernel
theorem dX1_takeFrom_94 : decode cX1_takeFrom 94 = .ok (.invokestatic 49, 3) := by decide +kernel
theorem dX1_takeFrom_97 : decode cX1_takeFrom 97 = .ok (.aload_n 0, 1) := by decide +kernel
theorem dX1_takeFrom_98 : decode cX1_takeFrom 98 = .ok (.getfield 9, 3) := by decide +kernel
theorem dX1_takeFrom_101 : decode cX1_takeFrom 101 = .ok (.iload 4, 2) := by decide +kernel
theorem dX1_takeFrom_103 : decode cX1_takeFrom 103 = .ok (.bipush 20, 2) := by decide +kernel
theorem dX1_takeFrom_105 : decode cX1_takeFrom 105 = .ok (.imul, 1) := by decide +kernel
theorem dX1_takeFrom_106 : decode cX1_takeFrom 106 = .ok (.iload 6, 2) := by decide +kernel
theorem dX1_takeFrom_108 : decode cX1_takeFrom 108 = .ok (.iadd, 1) := by decide +kernel
theorem dX1_takeFrom_109 : decode cX1_takeFrom 109 = .ok (.iload 7, 2) := by decide +kernel
theorem dX1_takeFrom_111 : decode cX1_takeFrom 111 = .ok (.invokestatic 49, 3) := by decide +kernel
theorem dX1_takeFrom_114 : decode cX1_takeFrom 114 = .ok (.iload 7, 2) := by decide +kernel
theorem dX1_takeFrom_116 : decode cX1_takeFrom 116 = .ok (.aload_n 3, 1) := by decide +kernel
theorem dX1_takeFrom_117 : decode cX1_takeFrom 117 = .ok (.iload 6, 2) := by decide +kernel
theorem dX1_takeFrom_119 : decode cX1_takeFrom 119 = .ok (.aload_n 0, 1) := by decide +kernel
theorem dX1_takeFrom_120 : decode cX1_takeFrom 120 = .ok (.getfield 18, 3) := by decide +kernel
theorem dX1_takeFrom_123 : decode cX1_takeFrom 123 = .ok (.invokevirtual 53, 3) := by decide +kernel
theorem dX1_takeFrom_126 : decode cX1_takeFrom 126 = .ok (.if_icmp .eq 7, 3) := by decide +kernel
theorem dX1_takeFrom_129 : decode cX1_takeFrom 129 = .ok (.iload 6, 2) := by decide +kernel
theorem dX1_takeFrom_131 : decode cX1_takeFrom 131 = .ok (.istore 5, 2) := by decide +kernel
theorem dX1_takeFrom_133 : decode cX1_takeFrom 133 = .ok (.iinc 6 1, 3) := by decide +kernel
theorem dX1_takeFrom_136 : decode cX1_takeFrom 136 = .ok (.goto (-100), 3) := by decide +kernel
theorem dX1_takeFrom_139 : decode cX1_takeFrom 139 = .ok (.aload_n 0, 1) := by decide +kernel
theorem dX1_takeFrom_140 : decode cX1_takeFrom 140 = .ok (.getfield 15, 3) := by decide +kernel
theorem dX1_takeFrom_143 : decode cX1_takeFrom 143 = .ok (.iload 4, 2) := by decide +kernel
theorem dX1_takeFrom_145 : decode cX1_takeFrom 145 = .ok (.iload 5, 2) := by decide +kernel
theorem dX1_takeFrom_147 : decode cX1_takeFrom 147 = .ok (.invokestatic 49, 3) := by decide +kernel
theorem dX1_takeFrom_150 : decode cX1_takeFrom 150 = .ok (.iinc 4 1, 3) := by decide +kernel
theorem dX1_takeFrom_153 : decode cX1_takeFrom 153 = .ok (.goto (-129), 3) := by decide +kernel
theorem dX1_takeFrom_156 : decode cX1_takeFrom 156 = .ok (.return_, 1) := by decide +kernel
theorem dX2_addSet_0 : decode cX2_addSet 0 = .ok (.iload_n 2, 1) := by decide +kernel
theorem dX2_addSet_1 : decode cX2_addSet 1 = .ok (.istore_n 3, 1) := by decide +kernel
theorem dX2_addSet_2 : decode cX2_addSet 2 = .ok (.iload_n 3, 1) := by decide +kernel
theorem dX2_addSet_3 : decode cX2_addSet 3 = .ok (.aload_n 0, 1) := by decide +kernel
theorem dX2_addSet_4 : decode cX2_addSet 4 = .ok (.getfield 24, 3) := by decide +kernel
theorem dX2_addSet_7 : decode cX2_addSet 7 = .ok (.if_icmp .ge 22, 3) := by decide +kernel
theorem dX2_addSet_10 : decode cX2_addSet 10 = .ok (.aload_n 0, 1) := by decide +kernel
theorem dX2_addSet_11 : decode cX2_addSet 11 = .ok (.getfield 18, 3) := by decide +kernel
theorem dX2_addSet_14 : decode cX2_addSet 14 = .ok (.iload_n 3, 1) := by decide +kernel
theorem dX2_addSet_15 : decode cX2_addSet 15 = .ok (.invokestatic 75, 3) := by decide +kernel
theorem dX2_addSet_18 : decode cX2_addSet 18 = .ok (.iload_n 1, 1) := by decide +kernel
theorem dX2_addSet_19 : decode cX2_addSet 19 = .ok (.if_icmp .ne 4, 3) := by decide +kernel
theorem dX2_addSet_22 : decode cX2_addSet 22 = .ok (.return_, 1) := by decide +kernel
theorem dX2_addSet_23 : decode cX2_addSet 23 = .ok (.iinc 3 1, 3) := by decide +kernel
theorem dX2_addSet_26 : decode cX2_addSet 26 = .ok (.goto (-24), 3) := by decide +kernel
theorem dX2_addSet_29 : decode cX2_addSet 29 = .ok (.aload_n 0, 1) := by decide +kernel
theorem dX2_addSet_30 : decode cX2_addSet 30 = .ok (.getfield 18, 3) := by decide +kernel
theorem dX2_addSet_33 : decode cX2_addSet 33 = .ok (.aload_n 0, 1) := by decide +kernel
theorem dX2_addSet_34 : decode cX2_addSet 34 = .ok (.getfield 24, 3) := by decide +kernel
theorem dX2_addSet_37 : decode cX2_addSet 37 = .ok (.iload_n 1, 1) := by decide +kernel
theorem dX2_addSet_38 : decode cX2_addSet 38 = .ok (.invokestatic 52, 3) := by decide +kernel
theorem dX2_addSet_41 : decode cX2_addSet 41 = .ok (.aload_n 0, 1) := by decide +kernel
theorem dX2_addSet_42 : decode cX2_addSet 42 = .ok (.dup, 1) := by decide +kernel
theorem dX2_addSet_43 : decode cX2_addSet 43 = .ok (.getfield 24, 3) := by decide +kernel
theorem dX2_addSet_46 : decode cX2_addSet 46 = .ok (.iconst 1, 1) := by decide +kernel
theorem dX2_addSet_47 : decode cX2_addSet 47 = .ok (.iadd, 1) := by decide +kernel
theorem dX2_addSet_48 : decode cX2_addSet 48 = .ok (.putfield 24, 3) := by decide +kernel
theorem dX2_addSet_51 : decode cX2_addSet 51 = .ok (.return_, 1) := by decide +kernel
theorem dX2_choose_0 : decode cX2_choose 0 = .ok (.iload_n 1, 1) := by decide +kernel
theorem dX2_choose_1 : decode cX2_choose 1 = .ok (.ifCond .lt 9, 3) := by decide +kernel
theorem dX2_choose_4 : decode cX2_choose 4 = .ok (.iload_n 1, 1) := by decide +kernel
theorem dX2_choose_5 : decode cX2_choose 5 = .ok (.bipush 20, 2) := by decide +kernel
theorem dX2_choose_7 : decode cX2_choose 7 = .ok (.if_icmp .lt 5, 3) := by decide +kernel
theorem dX2_choose_10 : decode cX2_choose 10 = .ok (.iload_n 2, 1) := by decide +kernel
theorem dX2_choose_11 : decode cX2_choose 11 = .ok (.ireturn, 1) := by decide +kernel
theorem dX2_choose_12 : decode cX2_choose 12 = .ok (.aload_n 0, 1) := by decide +kernel
theorem dX2_choose_13 : decode cX2_choose 13 = .ok (.aload_n 0, 1) := by decide +kernel
theorem dX2_choose_14 : decode cX2_choose 14 = .ok (.getfield 21, 3) := by decide +kernel
theorem dX2_choose_17 : decode cX2_choose 17 = .ok (.iload_n 1, 1) := by decide +kernel
theorem dX2_choose_18 : decode cX2_choose 18 = .ok (.invokestatic 75, 3) := by decide +kernel
theorem dX2_choose_21 : decode cX2_choose 21 = .ok (.aload_n 0, 1) := by decide +kernel
theorem dX2_choose_22 : decode cX2_choose 22 = .ok (.getfield 21, 3) := by decide +kernel
theorem dX2_choose_25 : decode cX2_choose 25 = .ok (.iload_n 1, 1) := by decide +kernel
theorem dX2_choose_26 : decode cX2_choose 26 = .ok (.iconst 1, 1) := by decide +kernel
theorem dX2_choose_27 : decode cX2_choose 27 = .ok (.iadd, 1) := by decide +kernel
theorem dX2_choose_28 : decode cX2_choose 28 = .ok (.invokestatic 75, 3) := by decide +kernel
theorem dX2_choose_31 : decode cX2_choose 31 = .ok (.iload_n 2, 1) := by decide +kernel
theorem dX2_choose_32 : decode cX2_choose 32 = .ok (.iload_n 1, 1) := by decide +kernel
theorem dX2_choose_33 : decode cX2_choose 33 = .ok (.invokestatic 89, 3) := by decide +kernel
theorem dX2_choose_36 : decode cX2_choose 36 = .ok (.invokevirtual 93, 3) := by decide +kernel
theorem dX2_choose_39 : decode cX2_choose 39 = .ok (.istore 4, 2) := by decide +kernel
theorem dX2_choose_41 : decode cX2_choose 41 = .ok (.iload 4, 2) := by decide +kernel
theorem dX2_choose_43 : decode cX2_choose 43 = .ok (.ifCond .eq 7, 3) := by decide +kernel
theorem dX2_choose_46 : decode cX2_choose 46 = .ok (.iconst (-1), 1) := by decide +kernel
theorem dX2_choose_47 : decode cX2_choose 47 = .ok (.goto 12, 3) := by decide +kernel
theorem dX2_choose_50 : decode cX2_choose 50 = .ok (.aload_n 0, 1) := by decide +kernel
theorem dX2_choose_51 : decode cX2_choose 51 = .ok (.iload_n 1, 1) := by decide +kernel
theorem dX2_choose_52 : decode cX2_choose 52 = .ok (.iconst 1, 1) := by decide +kernel
theorem dX2_choose_53 : decode cX2_choose 53 = .ok (.isub, 1) := by decide +kernel
theorem dX2_choose_54 : decode cX2_choose 54 = .ok (.iload_n 2, 1) := by decide +kernel
theorem dX2_choose_55 : decode cX2_choose 55 = .ok (.iload_n 3, 1) := by decide +kernel
theorem dX2_choose_56 : decode cX2_choose 56 = .ok (.invokevirtual 44, 3) := by decide +kernel
theorem dX2_choose_59 : decode cX2_choose 59 = .ok (.istore 5, 2) := by decide +kernel
theorem dX2_choose_61 : decode cX2_choose 61 = .ok (.iload 4, 2) := by decide +kernel
theorem dX2_choose_63 : decode cX2_choose 63 = .ok (.ifCond .ne 24, 3) := by decide +kernel
theorem dX2_choose_66 : decode cX2_choose 66 = .ok (.aload_n 0, 1) := by decide +kernel
theorem dX2_choose_67 : decode cX2_choose 67 = .ok (.iconst 0, 1) := by decide +kernel
theorem dX2_choose_68 : decode cX2_choose 68 = .ok (.aload_n 0, 1) := by decide +kernel
theorem dX2_choose_69 : decode cX2_choose 69 = .ok (.getfield 21, 3) := by decide +kernel
theorem dX2_choose_72 : decode cX2_choose 72 = .ok (.iload_n 1, 1) := by decide +kernel
theorem dX2_choose_73 : decode cX2_choose 73 = .ok (.invokestatic 75, 3) := by decide +kernel
theorem dX2_choose_76 : decode cX2_choose 76 = .ok (.iload_n 2, 1) := by decide +kernel
theorem dX2_choose_77 : decode cX2_choose 77 = .ok (.iload_n 1, 1) := by decide +kernel
theorem dX2_choose_78 : decode cX2_choose 78 = .ok (.invokestatic 89, 3) := by decide +kernel
theorem dX2_choose_81 : decode cX2_choose 81 = .ok (.invokevirtual 93, 3) := by decide +kernel
theorem dX2_choose_84 : decode cX2_choose 84 = .ok (.ifCond .eq 7, 3) := by decide +kernel
theorem dX2_choose_87 : decode cX2_choose 87 = .ok (.iconst 1, 1) := by decide +kernel
theorem dX2_choose_88 : decode cX2_choose 88 = .ok (.goto 4, 3) := by decide +kernel
theorem dX2_choose_91 : decode cX2_choose 91 = .ok (.iconst 0, 1) := by decide +kernel
theorem dX2_choose_92 : decode cX2_choose 92 = .ok (.istore 6, 2) := by decide +kernel
theorem dX2_choose_94 : decode cX2_choose 94 = .ok (.iload 5, 2) := by decide +kernel
theorem dX2_choose_96 : decode cX2_choose 96 = .ok (.ifCond .ge 30, 3) := by decide +kernel
theorem dX2_choose_99 : decode cX2_choose 99 = .ok (.iload_n 3, 1) := by decide +kernel
theorem dX2_choose_100 : decode cX2_choose 100 = .ok (.ifCond .le 26, 3) := by decide +kernel
theorem dX2_choose_103 : decode cX2_choose 103 = .ok (.iload 6, 2) := by decide +kernel
theorem dX2_choose_105 : decode cX2_choose 105 = .ok (.ifCond .eq 21, 3) := by decide +kernel
theorem dX2_choose_108 : decode cX2_choose 108 = .ok (.aload_n 0, 1) := by decide +kernel
theorem dX2_choose_109 : decode cX2_choose 109 = .ok (.iload_n 1, 1) := by decide +kernel
theorem dX2_choose_110 : decode cX2_choose 110 = .ok (.iconst 1, 1) := by decide +kernel
theorem dX2_choose_111 : decode cX2_choose 111 = .ok (.isub, 1) := by decide +kernel
theorem dX2_choose_112 : decode cX2_choose 112 = .ok (.iload_n 2, 1) := by decide +kernel
theorem dX2_choose_113 : decode cX2_choose 113 = .ok (.iload_n 1, 1) := by decide +kernel
theorem dX2_choose_114 : decode cX2_choose 114 = .ok (.invokestatic 89, 3) := by decide +kernel
theorem dX2_choose_117 : decode cX2_choose 117 = .ok (.ior, 1) := by decide +kernel
theorem dX2_choose_118 : decode cX2_choose 118 = .ok (.iload_n 3, 1) := by decide +kernel
theorem dX2_choose_119 : decode cX2_choose 119 = .ok (.iconst 1, 1) := by decide +kernel
theorem dX2_choose_120 : decode cX2_choose 120 = .ok (.isub, 1) := by decide +kernel
theorem dX2_choose_121 : decode cX2_choose 121 = .ok (.invokevirtual 44, 3) := by decide +kernel
theorem dX2_choose_124 : decode cX2_choose 124 = .ok (.istore 5, 2) := by decide +kernel
theorem dX2_choose_126 : decode cX2_choose 126 = .ok (.iload 5, 2) := by decide +kernel
theorem dX2_choose_128 : decode cX2_choose 128 = .ok (.ireturn, 1) := by decide +kernel
theorem dX2_collectSets_0 : decode cX2_collectSets 0 = .ok (.aload_n 0, 1) := by decide +kernel
theorem dX2_collectSets_1 : decode cX2_collectSets 1 = .ok (.iconst 0, 1) := by decide +kernel
theorem dX2_collectSets_2 : decode cX2_collectSets 2 = .ok (.putfield 24, 3) := by decide +kernel
theorem dX2_collectSets_5 : decode cX2_collectSets 5 = .ok (.aload_n 1, 1) := by decide +kernel
theorem dX2_collectSets_6 : decode cX2_collectSets 6 = .ok (.iconst 0, 1) := by decide +kernel
theorem dX2_collectSets_7 : decode cX2_collectSets 7 = .ok (.aload_n 0, 1) := by decide +kernel
theorem dX2_collectSets_8 : decode cX2_collectSets 8 = .ok (.getfield 9, 3) := by decide +kernel
theorem dX2_collectSets_11 : decode cX2_collectSets 11 = .ok (.invokevirtual 48, 3) := by decide +kernel
theorem dX2_collectSets_14 : decode cX2_collectSets 14 = .ok (.aload_n 1, 1) := by decide +kernel
theorem dX2_collectSets_15 : decode cX2_collectSets 15 = .ok (.getfield 32, 3) := by decide +kernel
theorem dX2_collectSets_18 : decode cX2_collectSets 18 = .ok (.invokevirtual 38, 3) := by decide +kernel
theorem dX2_collectSets_21 : decode cX2_collectSets 21 = .ok (.istore_n 2, 1) := by decide +kernel
theorem dX2_collectSets_22 : decode cX2_collectSets 22 = .ok (.iconst 0, 1) := by decide +kernel
theorem dX2_collectSets_23 : decode cX2_collectSets 23 = .ok (.istore_n 3, 1) := by decide +kernel
theorem dX2_collectSets_24 : decode cX2_collectSets 24 = .ok (.iload_n 3, 1) := by decide +kernel
theorem dX2_collectSets_25 : decode cX2_collectSets 25 = .ok (.iload_n 2, 1) := by decide +kernel
theorem dX2_collectSets_26 : decode cX2_collectSets 26 = .ok (.if_icmp .ge 105, 3) := by decide +kernel
theorem dX2_collectSets_29 : decode cX2_collectSets 29 = .ok (.aload_n 0, 1) := by decide +kernel
theorem dX2_collectSets_30 : decode cX2_collectSets 30 = .ok (.getfield 21, 3) := by decide +kernel
theorem dX2_collectSets_33 : decode cX2_collectSets 33 = .ok (.iload_n 3, 1) := by decide +kernel
theorem dX2_collectSets_34 : decode cX2_collectSets 34 = .ok (.aload_n 0, 1) := by decide +kernel
theorem dX2_collectSets_35 : decode cX2_collectSets 35 = .ok (.getfield 24, 3) := by decide +kernel
theorem dX2_collectSets_38 : decode cX2_collectSets 38 = .ok (.invokestatic 52, 3) := by decide +kernel
theorem dX2_collectSets_41 : decode cX2_collectSets 41 = .ok (.iconst 0, 1) := by decide +kernel
theorem dX2_collectSets_42 : decode cX2_collectSets 42 = .ok (.istore 4, 2) := by decide +kernel
theorem dX2_collectSets_44 : decode cX2_collectSets 44 = .ok (.iload 4, 2) := by decide +kernel
theorem dX2_collectSets_46 : decode cX2_collectSets 46 = .ok (.aload_n 1, 1) := by decide +kernel
theorem dX2_collectSets_47 : decode cX2_collectSets 47 = .ok (.getfield 56, 3) := by decide +kernel
theorem dX2_collectSets_50 : decode cX2_collectSets 50 = .ok (.if_icmp .ge 75, 3) := by decide +kernel
theorem dX2_collectSets_53 : decode cX2_collectSets 53 = .ok (.aload_n 0, 1) := by decide +kernel
theorem dX2_collectSets_54 : decode cX2_collectSets 54 = .ok (.getfield 9, 3) := by decide +kernel
theorem dX2_collectSets_57 : decode cX2_collectSets 57 = .ok (.aload_n 0, 1) := by decide +kernel
theorem dX2_collectSets_58 : decode cX2_collectSets 58 = .ok (.getfield 15, 3) := by decide +kernel
theorem dX2_collectSets_61 : decode cX2_collectSets 61 = .ok (.invokestatic 59, 3) := by decide +kernel
theorem dX2_collectSets_64 : decode cX2_collectSets 64 = .ok (.aload_n 1, 1) := by decide +kernel
theorem dX2_collectSets_65 : decode cX2_collectSets 65 = .ok (.iload_n 3, 1) := by decide +kernel
theorem dX2_collectSets_66 : decode cX2_collectSets 66 = .ok (.iload 4, 2) := by decide +kernel
theorem dX2_collectSets_68 : decode cX2_collectSets 68 = .ok (.aload_n 0, 1) := by decide +kernel
theorem dX2_collectSets_69 : decode cX2_collectSets 69 = .ok (.getfield 15, 3) := by decide +kernel
theorem dX2_collectSets_72 : decode cX2_collectSets 72 = .ok (.invokevirtual 63, 3) := by decide +kernel
theorem dX2_collectSets_75 : decode cX2_collectSets 75 = .ok (.aload_n 0, 1) := by decide +kernel
theorem dX2_collectSets_76 : decode cX2_collectSets 76 = .ok (.getfield 15, 3) := by decide +kernel
theorem dX2_collectSets_79 : decode cX2_collectSets 79 = .ok (.aload_n 0, 1) := by decide +kernel
theorem dX2_collectSets_80 : decode cX2_collectSets 80 = .ok (.getfield 9, 3) := by decide +kernel
theorem dX2_collectSets_83 : decode cX2_collectSets 83 = .ok (.iload_n 2, 1) := by decide +kernel
theorem dX2_collectSets_84 : decode cX2_collectSets 84 = .ok (.iconst 1, 1) := by decide +kernel
theorem dX2_collectSets_85 : decode cX2_collectSets 85 = .ok (.iadd, 1) := by decide +kernel
theorem dX2_collectSets_86 : decode cX2_collectSets 86 = .ok (.invokestatic 67, 3) := by decide +kernel
theorem dX2_collectSets_89 : decode cX2_collectSets 89 = .ok (.istore 5, 2) := by decide +kernel
theorem dX2_collectSets_91 : decode cX2_collectSets 91 = .ok (.iload 5, 2) := by decide +kernel
theorem dX2_collectSets_93 : decode cX2_collectSets 93 = .ok (.ifCond .eq 26, 3) := by decide +kernel
theorem dX2_collectSets_96 : decode cX2_collectSets 96 = .ok (.iload 5, 2) := by decide +kernel
theorem dX2_collectSets_98 : decode cX2_collectSets 98 = .ok (.iload_n 2, 1) := by decide +kernel
theorem dX2_collectSets_99 : decode cX2_collectSets 99 = .ok (.invokestatic 71, 3) := by decide +kernel
theorem dX2_collectSets_102 : decode cX2_collectSets 102 = .ok (.ifCond .ne 17, 3) := by decide +kernel
theorem dX2_collectSets_105 : decode cX2_collectSets 105 = .ok (.aload_n 0, 1) := by decide +kernel
theorem dX2_collectSets_106 : decode cX2_collectSets 106 = .ok (.iload 5, 2) := by decide +kernel
theorem dX2_collectSets_108 : decode cX2_collectSets 108 = .ok (.aload_n 0, 1) := by decide +kernel
theorem dX2_collectSets_109 : decode cX2_collectSets 109 = .ok (.getfield 21, 3) := by decide +kernel
theorem dX2_collectSets_112 : decode cX2_collectSets 112 = .ok (.iload_n 3, 1) := by decide +kernel
theorem dX2_collectSets_113 : decode cX2_collectSets 113 = .ok (.invokestatic 75, 3) := by decide +kernel
theorem dX2_collectSets_116 : decode cX2_collectSets 116 = .ok (.invokevirtual 79, 3) := by decide +kernel
theorem dX2_collectSets_119 : decode cX2_collectSets 119 = .ok (.iinc 4 1, 3) := by decide +kernel
theorem dX2_collectSets_122 : decode cX2_collectSets 122 = .ok (.goto (-78), 3) := by decide +kernel
theorem dX2_collectSets_125 : decode cX2_collectSets 125 = .ok (.iinc 3 1, 3) := by decide +kernel
theorem dX2_collectSets_128 : decode cX2_collectSets 128 = .ok (.goto (-104), 3) := by decide +kernel
theorem dX2_collectSets_131 : decode cX2_collectSets 131 = .ok (.aload_n 0, 1) := by decide +kernel
theorem dX2_collectSets_132 : decode cX2_collectSets 132 = .ok (.getfield 21, 3) := by decide +kernel
theorem dX2_collectSets_135 : decode cX2_collectSets 135 = .ok (.iconst 0, 1) := by decide +kernel
theorem dX2_collectSets_136 : decode cX2_collectSets 136 = .ok (.iload_n 2, 1) := by decide +kernel
theorem dX2_collectSets_137 : decode cX2_collectSets 137 = .ok (.invokestatic 83, 3) := by decide +kernel
theorem dX2_collectSets_140 : decode cX2_collectSets 140 = .ok (.aload_n 0, 1) := by decide +kernel
theorem dX2_collectSets_141 : decode cX2_collectSets 141 = .ok (.getfield 24, 3) := by decide +kernel
theorem dX2_collectSets_144 : decode cX2_collectSets 144 = .ok (.invokestatic 52, 3) := by decide +kernel
theorem dX2_collectSets_147 : decode cX2_collectSets 147 = .ok (.return_, 1) := by decide +kernel
theorem dX2_hasOpenSet_0 : decode cX2_hasOpenSet 0 = .ok (.iload_n 1, 1) := by decide +kernel
theorem dX2_hasOpenSet_1 : decode cX2_hasOpenSet 1 = .ok (.istore 5, 2) := by decide +kernel
theorem dX2_hasOpenSet_3 : decode cX2_hasOpenSet 3 = .ok (.iload 5, 2) := by decide +kernel
theorem dX2_hasOpenSet_5 : decode cX2_hasOpenSet 5 = .ok (.iload_n 2, 1) := by decide +kernel
theorem dX2_hasOpenSet_6 : decode cX2_hasOpenSet 6 = .ok (.if_icmp .ge 37, 3) := by decide +kernel
theorem dX2_hasOpenSet_9 : decode cX2_hasOpenSet 9 = .ok (.aload_n 0, 1) := by decide +kernel
theorem dX2_hasOpenSet_10 : decode cX2_hasOpenSet 10 = .ok (.getfield 18, 3) := by decide +kernel
theorem dX2_hasOpenSet_13 : decode cX2_hasOpenSet 13 = .ok (.iload 5, 2) := by decide +kernel
theorem dX2_hasOpenSet_15 : decode cX2_hasOpenSet 15 = .ok (.invokestatic 75, 3) := by decide +kernel
theorem dX2_hasOpenSet_18 : decode cX2_hasOpenSet 18 = .ok (.istore 6, 2) := by decide +kernel
theorem dX2_hasOpenSet_20 : decode cX2_hasOpenSet 20 = .ok (.iload 6, 2) := by decide +kernel
theorem dX2_hasOpenSet_22 : decode cX2_hasOpenSet 22 = .ok (.iload 4, 2) := by decide +kernel
theorem dX2_hasOpenSet_24 : decode cX2_hasOpenSet 24 = .ok (.iand, 1) := by decide +kernel
theorem dX2_hasOpenSet_25 : decode cX2_hasOpenSet 25 = .ok (.ifCond .eq 12, 3) := by decide +kernel
theorem dX2_hasOpenSet_28 : decode cX2_hasOpenSet 28 = .ok (.iload 6, 2) := by decide +kernel
theorem dX2_hasOpenSet_30 : decode cX2_hasOpenSet 30 = .ok (.iload_n 3, 1) := by decide +kernel
theorem dX2_hasOpenSet_31 : decode cX2_hasOpenSet 31 = .ok (.iand, 1) := by decide +kernel
theorem dX2_hasOpenSet_32 : decode cX2_hasOpenSet 32 = .ok (.ifCond .ne 5, 3) := by decide +kernel
theorem dX2_hasOpenSet_35 : decode cX2_hasOpenSet 35 = .ok (.iconst 1, 1) := by decide +kernel
theorem dX2_hasOpenSet_36 : decode cX2_hasOpenSet 36 = .ok (.ireturn, 1) := by decide +kernel
theorem dX2_hasOpenSet_37 : decode cX2_hasOpenSet 37 = .ok (.iinc 5 1, 3) := by decide +kernel
theorem dX2_hasOpenSet_40 : decode cX2_hasOpenSet 40 = .ok (.goto (-37), 3) := by decide +kernel
theorem dX2_hasOpenSet_43 : decode cX2_hasOpenSet 43 = .ok (.iconst 0, 1) := by decide +kernel
theorem dX2_hasOpenSet_44 : decode cX2_hasOpenSet 44 = .ok (.ireturn, 1) := by decide +kernel
theorem dX2_init_0 : decode cX2_init 0 = .ok (.aload_n 0, 1) := by decide +kernel
theorem dX2_init_1 : decode cX2_init 1 = .ok (.invokespecial 3, 3) := by decide +kernel
theorem dX2_init_4 : decode cX2_init 4 = .ok (.aload_n 0, 1) := by decide +kernel
theorem dX2_init_5 : decode cX2_init 5 = .ok (.bipush 20, 2) := by decide +kernel
theorem dX2_init_7 : decode cX2_init 7 = .ok (.newarray .int, 2) := by decide +kernel
theorem dX2_init_9 : decode cX2_init 9 = .ok (.putfield 9, 3) := by decide +kernel
theorem dX2_init_12 : decode cX2_init 12 = .ok (.aload_n 0, 1) := by decide +kernel
theorem dX2_init_13 : decode cX2_init 13 = .ok (.bipush 20, 2) := by decide +kernel
theorem dX2_init_15 : decode cX2_init 15 = .ok (.newarray .int, 2) := by decide +kernel
theorem dX2_init_17 : decode cX2_init 17 = .ok (.putfield 15, 3) := by decide +kernel
theorem dX2_init_20 : decode cX2_init 20 = .ok (.aload_n 0, 1) := by decide +kernel
theorem dX2_init_21 : decode cX2_init 21 = .ok (.sipush 1940, 3) := by decide +kernel
theorem dX2_init_24 : decode cX2_init 24 = .ok (.newarray .int, 2) := by decide +kernel
theorem dX2_init_26 : decode cX2_init 26 = .ok (.putfield 18, 3) := by decide +kernel
theorem dX2_init_29 : decode cX2_init 29 = .ok (.aload_n 0, 1) := by decide +kernel
theorem dX2_init_30 : decode cX2_init 30 = .ok (.bipush 21, 2) := by decide +kernel
theorem dX2_init_32 : decode cX2_init 32 = .ok (.newarray .int, 2) := by decide +kernel
theorem dX2_init_34 : decode cX2_init 34 = .ok (.putfield 21, 3) := by decide +kernel
theorem dX2_init_37 : decode cX2_init 37 = .ok (.aload_n 0, 1) := by decide +kernel
theorem dX2_init_38 : decode cX2_init 38 = .ok (.iconst 0, 1) := by decide +kernel
theorem dX2_init_39 : decode cX2_init 39 = .ok (.putfield 24, 3) := by decide +kernel
theorem dX2_init_42 : decode cX2_init 42 = .ok (.return_, 1) := by decide +kernel
theorem dX2_leastLines_0 : decode cX2_leastLines 0 = .ok (.aload_n 0, 1) := by decide +kernel
theorem dX2_leastLines_1 : decode cX2_leastLines 1 = .ok (.aload_n 1, 1) := by decide +kernel
theorem dX2_leastLines_2 : decode cX2_leastLines 2 = .ok (.invokevirtual 28, 3) := by decide +kernel
theorem dX2_leastLines_5 : decode cX2_leastLines 5 = .ok (.aload_n 1, 1) := by decide +kernel
theorem dX2_leastLines_6 : decode cX2_leastLines 6 = .ok (.getfield 32, 3) := by decide +kernel
theorem dX2_leastLines_9 : decode cX2_leastLines 9 = .ok (.invokevirtual 38, 3) := by decide +kernel
theorem dX2_leastLines_12 : decode cX2_leastLines 12 = .ok (.istore_n 2, 1) := by decide +kernel
theorem dX2_leastLines_13 : decode cX2_leastLines 13 = .ok (.iconst (-1), 1) := by decide +kernel
theorem dX2_leastLines_14 : decode cX2_leastLines 14 = .ok (.istore_n 3, 1) := by decide +kernel
theorem dX2_leastLines_15 : decode cX2_leastLines 15 = .ok (.iconst 0, 1) := by decide +kernel
theorem dX2_leastLines_16 : decode cX2_leastLines 16 = .ok (.istore 4, 2) := by decide +kernel
theorem dX2_leastLines_18 : decode cX2_leastLines 18 = .ok (.iload 4, 2) := by decide +kernel
theorem dX2_leastLines_20 : decode cX2_leastLines 20 = .ok (.iload_n 2, 1) := by decide +kernel
theorem dX2_leastLines_21 : decode cX2_leastLines 21 = .ok (.if_icmp .gt 24, 3) := by decide +kernel
theorem dX2_leastLines_24 : decode cX2_leastLines 24 = .ok (.iload_n 3, 1) := by decide +kernel
theorem dX2_leastLines_25 : decode cX2_leastLines 25 = .ok (.ifCond .ge 20, 3) := by decide +kernel
theorem dX2_leastLines_28 : decode cX2_leastLines 28 = .ok (.aload_n 0, 1) := by decide +kernel
theorem dX2_leastLines_29 : decode cX2_leastLines 29 = .ok (.iload_n 2, 1) := by decide +kernel
theorem dX2_leastLines_30 : decode cX2_leastLines 30 = .ok (.iconst 1, 1) := by decide +kernel
theorem dX2_leastLines_31 : decode cX2_leastLines 31 = .ok (.isub, 1) := by decide +kernel
theorem dX2_leastLines_32 : decode cX2_leastLines 32 = .ok (.iconst 0, 1) := by decide +kernel
theorem dX2_leastLines_33 : decode cX2_leastLines 33 = .ok (.iload 4, 2) := by decide +kernel
theorem dX2_leastLines_35 : decode cX2_leastLines 35 = .ok (.invokevirtual 44, 3) := by decide +kernel
theorem dX2_leastLines_38 : decode cX2_leastLines 38 = .ok (.istore_n 3, 1) := by decide +kernel
theorem dX2_leastLines_39 : decode cX2_leastLines 39 = .ok (.iinc 4 1, 3) := by decide +kernel
theorem dX2_leastLines_42 : decode cX2_leastLines 42 = .ok (.goto (-24), 3) := by decide +kernel
theorem dX2_leastLines_45 : decode cX2_leastLines 45 = .ok (.iload_n 3, 1) := by decide +kernel
theorem dX2_leastLines_46 : decode cX2_leastLines 46 = .ok (.ireturn, 1) := by decide +kernel
theorem dX3_arcsOf_0 : decode cX3_arcsOf 0 = .ok (.iload_n 1, 1) := by decide +kernel
theorem dX3_arcsOf_1 : decode cX3_arcsOf 1 = .ok (.ifCond .lt 21, 3) := by decide +kernel
theorem dX3_arcsOf_4 : decode cX3_arcsOf 4 = .ok (.iload_n 1, 1) := by decide +kernel
theorem dX3_arcsOf_5 : decode cX3_arcsOf 5 = .ok (.aload_n 0, 1) := by decide +kernel
theorem dX3_arcsOf_6 : decode cX3_arcsOf 6 = .ok (.getfield 11, 3) := by decide +kernel
theorem dX3_arcsOf_9 : decode cX3_arcsOf 9 = .ok (.arraylength, 1) := by decide +kernel
theorem dX3_arcsOf_10 : decode cX3_arcsOf 10 = .ok (.if_icmp .ge 12, 3) := by decide +kernel
theorem dX3_arcsOf_13 : decode cX3_arcsOf 13 = .ok (.aload_n 0, 1) := by decide +kernel
theorem dX3_arcsOf_14 : decode cX3_arcsOf 14 = .ok (.getfield 11, 3) := by decide +kernel
theorem dX3_arcsOf_17 : decode cX3_arcsOf 17 = .ok (.iload_n 1, 1) := by decide +kernel
theorem dX3_arcsOf_18 : decode cX3_arcsOf 18 = .ok (.laload, 1) := by decide +kernel
theorem dX3_arcsOf_19 : decode cX3_arcsOf 19 = .ok (.goto 4, 3) := by decide +kernel
theorem dX3_arcsOf_22 : decode cX3_arcsOf 22 = .ok (.lconst 0, 1) := by decide +kernel
theorem dX3_arcsOf_23 : decode cX3_arcsOf 23 = .ok (.lreturn, 1) := by decide +kernel
theorem dX3_drawArcs_0 : decode cX3_drawArcs 0 = .ok (.iconst 0, 1) := by decide +kernel
theorem dX3_drawArcs_1 : decode cX3_drawArcs 1 = .ok (.istore 4, 2) := by decide +kernel
theorem dX3_drawArcs_3 : decode cX3_drawArcs 3 = .ok (.iload 4, 2) := by decide +kernel
theorem dX3_drawArcs_5 : decode cX3_drawArcs 5 = .ok (.aload_n 0, 1) := by decide +kernel
theorem dX3_drawArcs_6 : decode cX3_drawArcs 6 = .ok (.getfield 11, 3) := by decide +kernel
theorem dX3_drawArcs_9 : decode cX3_drawArcs 9 = .ok (.arraylength, 1) := by decide +kernel
theorem dX3_drawArcs_10 : decode cX3_drawArcs 10 = .ok (.if_icmp .ge 17, 3) := by decide +kernel
theorem dX3_drawArcs_13 : decode cX3_drawArcs 13 = .ok (.aload_n 0, 1) := by decide +kernel
theorem dX3_drawArcs_14 : decode cX3_drawArcs 14 = .ok (.getfield 11, 3) := by decide +kernel
theorem dX3_drawArcs_17 : decode cX3_drawArcs 17 = .ok (.iload 4, 2) := by decide +kernel
theorem dX3_drawArcs_19 : decode cX3_drawArcs 19 = .ok (.lconst 0, 1) := by decide +kernel
theorem dX3_drawArcs_20 : decode cX3_drawArcs 20 = .ok (.lastore, 1) := by decide +kernel
theorem dX3_drawArcs_21 : decode cX3_drawArcs 21 = .ok (.iinc 4 1, 3) := by decide +kernel
theorem dX3_drawArcs_24 : decode cX3_drawArcs 24 = .ok (.goto (-21), 3) := by decide +kernel
theorem dX3_drawArcs_27 : decode cX3_drawArcs 27 = .ok (.aload_n 1, 1) := by decide +kernel
theorem dX3_drawArcs_28 : decode cX3_drawArcs 28 = .ok (.iload_n 2, 1) := by decide +kernel
theorem dX3_drawArcs_29 : decode cX3_drawArcs 29 = .ok (.invokevirtual 44, 3) := by decide +kernel
theorem dX3_drawArcs_32 : decode cX3_drawArcs 32 = .ok (.iload_n 3, 1) := by decide +kernel
theorem dX3_drawArcs_33 : decode cX3_drawArcs 33 = .ok (.iconst (-1), 1) := by decide +kernel
theorem dX3_drawArcs_34 : decode cX3_drawArcs 34 = .ok (.ixor, 1) := by decide +kernel
theorem dX3_drawArcs_35 : decode cX3_drawArcs 35 = .ok (.iand, 1) := by decide +kernel
theorem dX3_drawArcs_36 : decode cX3_drawArcs 36 = .ok (.istore 4, 2) := by decide +kernel
theorem dX3_drawArcs_38 : decode cX3_drawArcs 38 = .ok (.iload_n 2, 1) := by decide +kernel
theorem dX3_drawArcs_39 : decode cX3_drawArcs 39 = .ok (.istore 5, 2) := by decide +kernel
theorem dX3_drawArcs_41 : decode cX3_drawArcs 41 = .ok (.iload 5, 2) := by decide +kernel
theorem dX3_drawArcs_43 : decode cX3_drawArcs 43 = .ok (.aload_n 1, 1) := by decide +kernel
theorem dX3_drawArcs_44 : decode cX3_drawArcs 44 = .ok (.getfield 34, 3) := by decide +kernel
theorem dX3_drawArcs_47 : decode cX3_drawArcs 47 = .ok (.if_icmp .ge 66, 3) := by decide +kernel
theorem dX3_drawArcs_50 : decode cX3_drawArcs 50 = .ok (.iload 4, 2) := by decide +kernel
theorem dX3_drawArcs_52 : decode cX3_drawArcs 52 = .ok (.iload 5, 2) := by decide +kernel
theorem dX3_drawArcs_54 : decode cX3_drawArcs 54 = .ok (.invokestatic 47, 3) := by decide +kernel
theorem dX3_drawArcs_57 : decode cX3_drawArcs 57 = .ok (.ifCond .eq 16, 3) := by decide +kernel
theorem dX3_drawArcs_60 : decode cX3_drawArcs 60 = .ok (.aload_n 0, 1) := by decide +kernel
theorem dX3_drawArcs_61 : decode cX3_drawArcs 61 = .ok (.iload 5, 2) := by decide +kernel
theorem dX3_drawArcs_63 : decode cX3_drawArcs 63 = .ok (.lconst 1, 1) := by decide +kernel
theorem dX3_drawArcs_64 : decode cX3_drawArcs 64 = .ok (.bipush 20, 2) := by decide +kernel
theorem dX3_drawArcs_66 : decode cX3_drawArcs 66 = .ok (.iload 5, 2) := by decide +kernel
theorem dX3_drawArcs_68 : decode cX3_drawArcs 68 = .ok (.iadd, 1) := by decide +kernel
theorem dX3_drawArcs_69 : decode cX3_drawArcs 69 = .ok (.lshl, 1) := by decide +kernel
theorem dX3_drawArcs_70 : decode cX3_drawArcs 70 = .ok (.invokevirtual 51, 3) := by decide +kernel
theorem dX3_drawArcs_73 : decode cX3_drawArcs 73 = .ok (.iload 5, 2) := by decide +kernel
theorem dX3_drawArcs_75 : decode cX3_drawArcs 75 = .ok (.iload_n 2, 1) := by decide +kernel
theorem dX3_drawArcs_76 : decode cX3_drawArcs 76 = .ok (.if_icmp .eq 13, 3) := by decide +kernel
theorem dX3_drawArcs_79 : decode cX3_drawArcs 79 = .ok (.iload 4, 2) := by decide +kernel
theorem dX3_drawArcs_81 : decode cX3_drawArcs 81 = .ok (.iload 5, 2) := by decide +kernel
theorem dX3_drawArcs_83 : decode cX3_drawArcs 83 = .ok (.invokestatic 47, 3) := by decide +kernel
theorem dX3_drawArcs_86 : decode cX3_drawArcs 86 = .ok (.ifCond .eq 21, 3) := by decide +kernel
theorem dX3_drawArcs_89 : decode cX3_drawArcs 89 = .ok (.aload_n 0, 1) := by decide +kernel
theorem dX3_drawArcs_90 : decode cX3_drawArcs 90 = .ok (.bipush 20, 2) := by decide +kernel
theorem dX3_drawArcs_92 : decode cX3_drawArcs 92 = .ok (.iload 5, 2) := by decide +kernel
theorem dX3_drawArcs_94 : decode cX3_drawArcs 94 = .ok (.iadd, 1) := by decide +kernel
theorem dX3_drawArcs_95 : decode cX3_drawArcs 95 = .ok (.aload_n 1, 1) := by decide +kernel
theorem dX3_drawArcs_96 : decode cX3_drawArcs 96 = .ok (.iload 5, 2) := by decide +kernel
theorem dX3_drawArcs_98 : decode cX3_drawArcs 98 = .ok (.iload 4, 2) := by decide +kernel
theorem dX3_drawArcs_100 : decode cX3_drawArcs 100 = .ok (.iload_n 3, 1) := by decide +kernel
theorem dX3_drawArcs_101 : decode cX3_drawArcs 101 = .ok (.invokestatic 55, 3) := by decide +kernel
theorem dX3_drawArcs_104 : decode cX3_drawArcs 104 = .ok (.invokevirtual 51, 3) := by decide +kernel
theorem dX3_drawArcs_107 : decode cX3_drawArcs 107 = .ok (.iinc 5 1, 3) := by decide +kernel
theorem dX3_drawArcs_110 : decode cX3_drawArcs 110 = .ok (.goto (-69), 3) := by decide +kernel
theorem dX3_drawArcs_113 : decode cX3_drawArcs 113 = .ok (.return_, 1) := by decide +kernel
theorem dX3_init_0 : decode cX3_init 0 = .ok (.aload_n 0, 1) := by decide +kernel
theorem dX3_init_1 : decode cX3_init 1 = .ok (.invokespecial 3, 3) := by decide +kernel
theorem dX3_init_4 : decode cX3_init 4 = .ok (.aload_n 0, 1) := by decide +kernel
theorem dX3_init_5 : decode cX3_init 5 = .ok (.bipush 41, 2) := by decide +kernel
theorem dX3_init_7 : decode cX3_init 7 = .ok (.newarray .long, 2) := by decide +kernel
theorem dX3_init_9 : decode cX3_init 9 = .ok (.putfield 11, 3) := by decide +kernel
theorem dX3_init_12 : decode cX3_init 12 = .ok (.aload_n 0, 1) := by decide +kernel
theorem dX3_init_13 : decode cX3_init 13 = .ok (.bipush 41, 2) := by decide +kernel
theorem dX3_init_15 : decode cX3_init 15 = .ok (.newarray .int, 2) := by decide +kernel
theorem dX3_init_17 : decode cX3_init 17 = .ok (.putfield 15, 3) := by decide +kernel
theorem dX3_init_20 : decode cX3_init 20 = .ok (.aload_n 0, 1) := by decide +kernel
theorem dX3_init_21 : decode cX3_init 21 = .ok (.bipush 41, 2) := by decide +kernel
theorem dX3_init_23 : decode cX3_init 23 = .ok (.newarray .int, 2) := by decide +kernel
theorem dX3_init_25 : decode cX3_init 25 = .ok (.putfield 19, 3) := by decide +kernel
theorem dX3_init_28 : decode cX3_init 28 = .ok (.return_, 1) := by decide +kernel
theorem dX3_leastCut_0 : decode cX3_leastCut 0 = .ok (.aload_n 0, 1) := by decide +kernel
theorem dX3_leastCut_1 : decode cX3_leastCut 1 = .ok (.aload_n 1, 1) := by decide +kernel
theorem dX3_leastCut_2 : decode cX3_leastCut 2 = .ok (.iload_n 2, 1) := by decide +kernel
theorem dX3_leastCut_3 : decode cX3_leastCut 3 = .ok (.iload_n 3, 1) := by decide +kernel
theorem dX3_leastCut_4 : decode cX3_leastCut 4 = .ok (.invokevirtual 22, 3) := by decide +kernel
theorem dX3_leastCut_7 : decode cX3_leastCut 7 = .ok (.aload_n 0, 1) := by decide +kernel
theorem dX3_leastCut_8 : decode cX3_leastCut 8 = .ok (.bipush 20, 2) := by decide +kernel
theorem dX3_leastCut_10 : decode cX3_leastCut 10 = .ok (.iload_n 2, 1) := by decide +kernel
theorem dX3_leastCut_11 : decode cX3_leastCut 11 = .ok (.iadd, 1) := by decide +kernel
theorem dX3_leastCut_12 : decode cX3_leastCut 12 = .ok (.invokevirtual 26, 3) := by decide +kernel
theorem dX3_leastCut_15 : decode cX3_leastCut 15 = .ok (.lstore 4, 2) := by decide +kernel
theorem dX3_leastCut_17 : decode cX3_leastCut 17 = .ok (.iconst 0, 1) := by decide +kernel
theorem dX3_leastCut_18 : decode cX3_leastCut 18 = .ok (.istore 6, 2) := by decide +kernel
theorem dX3_leastCut_20 : decode cX3_leastCut 20 = .ok (.iload 6, 2) := by decide +kernel
theorem dX3_leastCut_22 : decode cX3_leastCut 22 = .ok (.bipush 20, 2) := by decide +kernel
theorem dX3_leastCut_24 : decode cX3_leastCut 24 = .ok (.if_icmp .ge 39, 3) := by decide +kernel
theorem dX3_leastCut_27 : decode cX3_leastCut 27 = .ok (.lload 4, 2) := by decide +kernel
theorem dX3_leastCut_29 : decode cX3_leastCut 29 = .ok (.bipush 40, 2) := by decide +kernel
theorem dX3_leastCut_31 : decode cX3_leastCut 31 = .ok (.lshr, 1) := by decide +kernel
theorem dX3_leastCut_32 : decode cX3_leastCut 32 = .ok (.lconst 1, 1) := by decide +kernel
theorem dX3_leastCut_33 : decode cX3_leastCut 33 = .ok (.land, 1) := by decide +kernel
theorem dX3_leastCut_34 : decode cX3_leastCut 34 = .ok (.lconst 0, 1) := by decide +kernel
theorem dX3_leastCut_35 : decode cX3_leastCut 35 = .ok (.lcmp, 1) := by decide +kernel
theorem dX3_leastCut_36 : decode cX3_leastCut 36 = .ok (.ifCond .eq 27, 3) := by decide +kernel
theorem dX3_leastCut_39 : decode cX3_leastCut 39 = .ok (.aload_n 0, 1) := by decide +kernel
theorem dX3_leastCut_40 : decode cX3_leastCut 40 = .ok (.bipush 20, 2) := by decide +kernel
theorem dX3_leastCut_42 : decode cX3_leastCut 42 = .ok (.iload_n 2, 1) := by decide +kernel
theorem dX3_leastCut_43 : decode cX3_leastCut 43 = .ok (.iadd, 1) := by decide +kernel
theorem dX3_leastCut_44 : decode cX3_leastCut 44 = .ok (.invokevirtual 30, 3) := by decide +kernel
theorem dX3_leastCut_47 : decode cX3_leastCut 47 = .ok (.aload_n 0, 1) := by decide +kernel
theorem dX3_leastCut_48 : decode cX3_leastCut 48 = .ok (.bipush 20, 2) := by decide +kernel
theorem dX3_leastCut_50 : decode cX3_leastCut 50 = .ok (.iload_n 2, 1) := by decide +kernel
theorem dX3_leastCut_51 : decode cX3_leastCut 51 = .ok (.iadd, 1) := by decide +kernel
theorem dX3_leastCut_52 : decode cX3_leastCut 52 = .ok (.invokevirtual 26, 3) := by decide +kernel
theorem dX3_leastCut_55 : decode cX3_leastCut 55 = .ok (.lstore 4, 2) := by decide +kernel
theorem dX3_leastCut_57 : decode cX3_leastCut 57 = .ok (.iinc 6 1, 3) := by decide +kernel
theorem dX3_leastCut_60 : decode cX3_leastCut 60 = .ok (.goto (-40), 3) := by decide +kernel
theorem dX3_leastCut_63 : decode cX3_leastCut 63 = .ok (.iconst 0, 1) := by decide +kernel
theorem dX3_leastCut_64 : decode cX3_leastCut 64 = .ok (.istore 6, 2) := by decide +kernel
theorem dX3_leastCut_66 : decode cX3_leastCut 66 = .ok (.iconst 0, 1) := by decide +kernel
theorem dX3_leastCut_67 : decode cX3_leastCut 67 = .ok (.istore 7, 2) := by decide +kernel
theorem dX3_leastCut_69 : decode cX3_leastCut 69 = .ok (.iload 7, 2) := by decide +kernel
theorem dX3_leastCut_71 : decode cX3_leastCut 71 = .ok (.aload_n 1, 1) := by decide +kernel
theorem dX3_leastCut_72 : decode cX3_leastCut 72 = .ok (.getfield 34, 3) := by decide +kernel
theorem dX3_leastCut_75 : decode cX3_leastCut 75 = .ok (.if_icmp .ge 46, 3) := by decide +kernel
theorem dX3_leastCut_78 : decode cX3_leastCut 78 = .ok (.lload 4, 2) := by decide +kernel
theorem dX3_leastCut_80 : decode cX3_leastCut 80 = .ok (.iload 7, 2) := by decide +kernel
theorem dX3_leastCut_82 : decode cX3_leastCut 82 = .ok (.lshr, 1) := by decide +kernel
theorem dX3_leastCut_83 : decode cX3_leastCut 83 = .ok (.lconst 1, 1) := by decide +kernel
theorem dX3_leastCut_84 : decode cX3_leastCut 84 = .ok (.land, 1) := by decide +kernel
theorem dX3_leastCut_85 : decode cX3_leastCut 85 = .ok (.lconst 0, 1) := by decide +kernel
theorem dX3_leastCut_86 : decode cX3_leastCut 86 = .ok (.lcmp, 1) := by decide +kernel
theorem dX3_leastCut_87 : decode cX3_leastCut 87 = .ok (.ifCond .eq 28, 3) := by decide +kernel
theorem dX3_leastCut_90 : decode cX3_leastCut 90 = .ok (.lload 4, 2) := by decide +kernel
theorem dX3_leastCut_92 : decode cX3_leastCut 92 = .ok (.bipush 20, 2) := by decide +kernel
theorem dX3_leastCut_94 : decode cX3_leastCut 94 = .ok (.iload 7, 2) := by decide +kernel
theorem dX3_leastCut_96 : decode cX3_leastCut 96 = .ok (.iadd, 1) := by decide +kernel
theorem dX3_leastCut_97 : decode cX3_leastCut 97 = .ok (.lshr, 1) := by decide +kernel
theorem dX3_leastCut_98 : decode cX3_leastCut 98 = .ok (.lconst 1, 1) := by decide +kernel
theorem dX3_leastCut_99 : decode cX3_leastCut 99 = .ok (.land, 1) := by decide +kernel
theorem dX3_leastCut_100 : decode cX3_leastCut 100 = .ok (.lconst 0, 1) := by decide +kernel
theorem dX3_leastCut_101 : decode cX3_leastCut 101 = .ok (.lcmp, 1) := by decide +kernel
theorem dX3_leastCut_102 : decode cX3_leastCut 102 = .ok (.ifCond .ne 13, 3) := by decide +kernel
theorem dX3_leastCut_105 : decode cX3_leastCut 105 = .ok (.iload 6, 2) := by decide +kernel
theorem dX3_leastCut_107 : decode cX3_leastCut 107 = .ok (.iload 7, 2) := by decide +kernel
theorem dX3_leastCut_109 : decode cX3_leastCut 109 = .ok (.invokestatic 40, 3) := by decide +kernel
theorem dX3_leastCut_112 : decode cX3_leastCut 112 = .ok (.ior, 1) := by decide +kernel
theorem dX3_leastCut_113 : decode cX3_leastCut 113 = .ok (.istore 6, 2) := by decide +kernel
theorem dX3_leastCut_115 : decode cX3_leastCut 115 = .ok (.iinc 7 1, 3) := by decide +kernel
theorem dX3_leastCut_118 : decode cX3_leastCut 118 = .ok (.goto (-49), 3) := by decide +kernel
theorem dX3_leastCut_121 : decode cX3_leastCut 121 = .ok (.iload 6, 2) := by decide +kernel
theorem dX3_leastCut_123 : decode cX3_leastCut 123 = .ok (.ireturn, 1) := by decide +kernel
theorem dX3_putArcs_0 : decode cX3_putArcs 0 = .ok (.iload_n 1, 1) := by decide +kernel
theorem dX3_putArcs_1 : decode cX3_putArcs 1 = .ok (.ifCond .lt 19, 3) := by decide +kernel
theorem dX3_putArcs_4 : decode cX3_putArcs 4 = .ok (.iload_n 1, 1) := by decide +kernel
theorem dX3_putArcs_5 : decode cX3_putArcs 5 = .ok (.aload_n 0, 1) := by decide +kernel
theorem dX3_putArcs_6 : decode cX3_putArcs 6 = .ok (.getfield 11, 3) := by decide +kernel
theorem dX3_putArcs_9 : decode cX3_putArcs 9 = .ok (.arraylength, 1) := by decide +kernel
theorem dX3_putArcs_10 : decode cX3_putArcs 10 = .ok (.if_icmp .ge 10, 3) := by decide +kernel
theorem dX3_putArcs_13 : decode cX3_putArcs 13 = .ok (.aload_n 0, 1) := by decide +kernel
theorem dX3_putArcs_14 : decode cX3_putArcs 14 = .ok (.getfield 11, 3) := by decide +kernel
theorem dX3_putArcs_17 : decode cX3_putArcs 17 = .ok (.iload_n 1, 1) := by decide +kernel
theorem dX3_putArcs_18 : decode cX3_putArcs 18 = .ok (.lload_n 2, 1) := by decide +kernel
theorem dX3_putArcs_19 : decode cX3_putArcs 19 = .ok (.lastore, 1) := by decide +kernel
theorem dX3_putArcs_20 : decode cX3_putArcs 20 = .ok (.return_, 1) := by decide +kernel
theorem dX3_reachedFrom_0 : decode cX3_reachedFrom 0 = .ok (.lconst 1, 1) := by decide +kernel
theorem dX3_reachedFrom_1 : decode cX3_reachedFrom 1 = .ok (.iload_n 1, 1) := by decide +kernel
theorem dX3_reachedFrom_2 : decode cX3_reachedFrom 2 = .ok (.lshl, 1) := by decide +kernel
theorem dX3_reachedFrom_3 : decode cX3_reachedFrom 3 = .ok (.lstore_n 2, 1) := by decide +kernel
theorem dX3_reachedFrom_4 : decode cX3_reachedFrom 4 = .ok (.iconst 1, 1) := by decide +kernel
theorem dX3_reachedFrom_5 : decode cX3_reachedFrom 5 = .ok (.istore 4, 2) := by decide +kernel
theorem dX3_reachedFrom_7 : decode cX3_reachedFrom 7 = .ok (.aload_n 0, 1) := by decide +kernel
theorem dX3_reachedFrom_8 : decode cX3_reachedFrom 8 = .ok (.getfield 19, 3) := by decide +kernel
theorem dX3_reachedFrom_11 : decode cX3_reachedFrom 11 = .ok (.iconst 0, 1) := by decide +kernel
theorem dX3_reachedFrom_12 : decode cX3_reachedFrom 12 = .ok (.iload_n 1, 1) := by decide +kernel
theorem dX3_reachedFrom_13 : decode cX3_reachedFrom 13 = .ok (.invokestatic 64, 3) := by decide +kernel
theorem dX3_reachedFrom_16 : decode cX3_reachedFrom 16 = .ok (.iconst 0, 1) := by decide +kernel
theorem dX3_reachedFrom_17 : decode cX3_reachedFrom 17 = .ok (.istore 5, 2) := by decide +kernel
theorem dX3_reachedFrom_19 : decode cX3_reachedFrom 19 = .ok (.iload 5, 2) := by decide +kernel
theorem dX3_reachedFrom_21 : decode cX3_reachedFrom 21 = .ok (.iload 4, 2) := by decide +kernel
theorem dX3_reachedFrom_23 : decode cX3_reachedFrom 23 = .ok (.if_icmp .ge 109, 3) := by decide +kernel
theorem dX3_reachedFrom_26 : decode cX3_reachedFrom 26 = .ok (.iload 5, 2) := by decide +kernel
theorem dX3_reachedFrom_28 : decode cX3_reachedFrom 28 = .ok (.aload_n 0, 1) := by decide +kernel
theorem dX3_reachedFrom_29 : decode cX3_reachedFrom 29 = .ok (.getfield 19, 3) := by decide +kernel
theorem dX3_reachedFrom_32 : decode cX3_reachedFrom 32 = .ok (.arraylength, 1) := by decide +kernel
theorem dX3_reachedFrom_33 : decode cX3_reachedFrom 33 = .ok (.if_icmp .ge 99, 3) := by decide +kernel
theorem dX3_reachedFrom_36 : decode cX3_reachedFrom 36 = .ok (.aload_n 0, 1) := by decide +kernel
theorem dX3_reachedFrom_37 : decode cX3_reachedFrom 37 = .ok (.getfield 19, 3) := by decide +kernel
theorem dX3_reachedFrom_40 : decode cX3_reachedFrom 40 = .ok (.iload 5, 2) := by decide +kernel
theorem dX3_reachedFrom_42 : decode cX3_reachedFrom 42 = .ok (.invokestatic 68, 3) := by decide +kernel
theorem dX3_reachedFrom_45 : decode cX3_reachedFrom 45 = .ok (.istore 6, 2) := by decide +kernel
theorem dX3_reachedFrom_47 : decode cX3_reachedFrom 47 = .ok (.aload_n 0, 1) := by decide +kernel
theorem dX3_reachedFrom_48 : decode cX3_reachedFrom 48 = .ok (.iload 6, 2) := by decide +kernel
theorem dX3_reachedFrom_50 : decode cX3_reachedFrom 50 = .ok (.invokevirtual 72, 3) := by decide +kernel
theorem dX3_reachedFrom_53 : decode cX3_reachedFrom 53 = .ok (.lload_n 2, 1) := by decide +kernel
theorem dX3_reachedFrom_54 : decode cX3_reachedFrom 54 = .ok (.ldc2_w 75, 3) := by decide +kernel
theorem dX3_reachedFrom_57 : decode cX3_reachedFrom 57 = .ok (.lxor, 1) := by decide +kernel
theorem dX3_reachedFrom_58 : decode cX3_reachedFrom 58 = .ok (.land, 1) := by decide +kernel
theorem dX3_reachedFrom_59 : decode cX3_reachedFrom 59 = .ok (.lstore 7, 2) := by decide +kernel
theorem dX3_reachedFrom_61 : decode cX3_reachedFrom 61 = .ok (.iconst 0, 1) := by decide +kernel
theorem dX3_reachedFrom_62 : decode cX3_reachedFrom 62 = .ok (.istore 9, 2) := by decide +kernel
theorem dX3_reachedFrom_64 : decode cX3_reachedFrom 64 = .ok (.iload 9, 2) := by decide +kernel
theorem dX3_reachedFrom_66 : decode cX3_reachedFrom 66 = .ok (.bipush 40, 2) := by decide +kernel
theorem dX3_reachedFrom_68 : decode cX3_reachedFrom 68 = .ok (.if_icmp .gt 53, 3) := by decide +kernel
theorem dX3_reachedFrom_71 : decode cX3_reachedFrom 71 = .ok (.lload 7, 2) := by decide +kernel
theorem dX3_reachedFrom_73 : decode cX3_reachedFrom 73 = .ok (.lconst 0, 1) := by decide +kernel
theorem dX3_reachedFrom_74 : decode cX3_reachedFrom 74 = .ok (.lcmp, 1) := by decide +kernel
theorem dX3_reachedFrom_75 : decode cX3_reachedFrom 75 = .ok (.ifCond .eq 46, 3) := by decide +kernel
theorem dX3_reachedFrom_78 : decode cX3_reachedFrom 78 = .ok (.lload 7, 2) := by decide +kernel
theorem dX3_reachedFrom_80 : decode cX3_reachedFrom 80 = .ok (.iload 9, 2) := by decide +kernel
theorem dX3_reachedFrom_82 : decode cX3_reachedFrom 82 = .ok (.lshr, 1) := by decide +kernel
theorem dX3_reachedFrom_83 : decode cX3_reachedFrom 83 = .ok (.lconst 1, 1) := by decide +kernel
theorem dX3_reachedFrom_84 : decode cX3_reachedFrom 84 = .ok (.land, 1) := by decide +kernel
theorem dX3_reachedFrom_85 : decode cX3_reachedFrom 85 = .ok (.lconst 0, 1) := by decide +kernel
theorem dX3_reachedFrom_86 : decode cX3_reachedFrom 86 = .ok (.lcmp, 1) := by decide +kernel
theorem dX3_reachedFrom_87 : decode cX3_reachedFrom 87 = .ok (.ifCond .eq 28, 3) := by decide +kernel
theorem dX3_reachedFrom_90 : decode cX3_reachedFrom 90 = .ok (.aload_n 0, 1) := by decide +kernel
theorem dX3_reachedFrom_91 : decode cX3_reachedFrom 91 = .ok (.getfield 15, 3) := by decide +kernel
theorem dX3_reachedFrom_94 : decode cX3_reachedFrom 94 = .ok (.iload 9, 2) := by decide +kernel
theorem dX3_reachedFrom_96 : decode cX3_reachedFrom 96 = .ok (.iload 6, 2) := by decide +kernel
theorem dX3_reachedFrom_98 : decode cX3_reachedFrom 98 = .ok (.invokestatic 64, 3) := by decide +kernel
theorem dX3_reachedFrom_101 : decode cX3_reachedFrom 101 = .ok (.aload_n 0, 1) := by decide +kernel
theorem dX3_reachedFrom_102 : decode cX3_reachedFrom 102 = .ok (.getfield 19, 3) := by decide +kernel
theorem dX3_reachedFrom_105 : decode cX3_reachedFrom 105 = .ok (.iload 4, 2) := by decide +kernel
theorem dX3_reachedFrom_107 : decode cX3_reachedFrom 107 = .ok (.iload 9, 2) := by decide +kernel
theorem dX3_reachedFrom_109 : decode cX3_reachedFrom 109 = .ok (.invokestatic 64, 3) := by decide +kernel
theorem dX3_reachedFrom_112 : decode cX3_reachedFrom 112 = .ok (.iinc 4 1, 3) := by decide +kernel
theorem dX3_reachedFrom_115 : decode cX3_reachedFrom 115 = .ok (.iinc 9 1, 3) := by decide +kernel
theorem dX3_reachedFrom_118 : decode cX3_reachedFrom 118 = .ok (.goto (-54), 3) := by decide +kernel
theorem dX3_reachedFrom_121 : decode cX3_reachedFrom 121 = .ok (.lload_n 2, 1) := by decide +kernel
theorem dX3_reachedFrom_122 : decode cX3_reachedFrom 122 = .ok (.lload 7, 2) := by decide +kernel
theorem dX3_reachedFrom_124 : decode cX3_reachedFrom 124 = .ok (.lor, 1) := by decide +kernel
theorem dX3_reachedFrom_125 : decode cX3_reachedFrom 125 = .ok (.lstore_n 2, 1) := by decide +kernel
theorem dX3_reachedFrom_126 : decode cX3_reachedFrom 126 = .ok (.iinc 5 1, 3) := by decide +kernel
theorem dX3_reachedFrom_129 : decode cX3_reachedFrom 129 = .ok (.goto (-110), 3) := by decide +kernel
theorem dX3_reachedFrom_132 : decode cX3_reachedFrom 132 = .ok (.lload_n 2, 1) := by decide +kernel
theorem dX3_reachedFrom_133 : decode cX3_reachedFrom 133 = .ok (.lreturn, 1) := by decide +kernel
theorem dX3_turnArcs_0 : decode cX3_turnArcs 0 = .ok (.bipush 40, 2) := by decide +kernel
theorem dX3_turnArcs_2 : decode cX3_turnArcs 2 = .ok (.istore_n 2, 1) := by decide +kernel
theorem dX3_turnArcs_3 : decode cX3_turnArcs 3 = .ok (.iconst 0, 1) := by decide +kernel
theorem dX3_turnArcs_4 : decode cX3_turnArcs 4 = .ok (.istore_n 3, 1) := by decide +kernel
theorem dX3_turnArcs_5 : decode cX3_turnArcs 5 = .ok (.iload_n 3, 1) := by decide +kernel
theorem dX3_turnArcs_6 : decode cX3_turnArcs 6 = .ok (.bipush 40, 2) := by decide +kernel
theorem dX3_turnArcs_8 : decode cX3_turnArcs 8 = .ok (.if_icmp .gt 90, 3) := by decide +kernel
theorem dX3_turnArcs_11 : decode cX3_turnArcs 11 = .ok (.iload_n 2, 1) := by decide +kernel
theorem dX3_turnArcs_12 : decode cX3_turnArcs 12 = .ok (.iload_n 1, 1) := by decide +kernel
theorem dX3_turnArcs_13 : decode cX3_turnArcs 13 = .ok (.if_icmp .eq 85, 3) := by decide +kernel
theorem dX3_turnArcs_16 : decode cX3_turnArcs 16 = .ok (.aload_n 0, 1) := by decide +kernel
theorem dX3_turnArcs_17 : decode cX3_turnArcs 17 = .ok (.getfield 15, 3) := by decide +kernel
theorem dX3_turnArcs_20 : decode cX3_turnArcs 20 = .ok (.iload_n 2, 1) := by decide +kernel
theorem dX3_turnArcs_21 : decode cX3_turnArcs 21 = .ok (.invokestatic 68, 3) := by decide +kernel
theorem dX3_turnArcs_24 : decode cX3_turnArcs 24 = .ok (.istore 4, 2) := by decide +kernel
theorem dX3_turnArcs_26 : decode cX3_turnArcs 26 = .ok (.iload 4, 2) := by decide +kernel
theorem dX3_turnArcs_28 : decode cX3_turnArcs 28 = .ok (.bipush 20, 2) := by decide +kernel
theorem dX3_turnArcs_30 : decode cX3_turnArcs 30 = .ok (.if_icmp .lt 16, 3) := by decide +kernel
theorem dX3_turnArcs_33 : decode cX3_turnArcs 33 = .ok (.iload_n 2, 1) := by decide +kernel
theorem dX3_turnArcs_34 : decode cX3_turnArcs 34 = .ok (.iload 4, 2) := by decide +kernel
theorem dX3_turnArcs_36 : decode cX3_turnArcs 36 = .ok (.bipush 20, 2) := by decide +kernel
theorem dX3_turnArcs_38 : decode cX3_turnArcs 38 = .ok (.isub, 1) := by decide +kernel
theorem dX3_turnArcs_39 : decode cX3_turnArcs 39 = .ok (.if_icmp .eq 7, 3) := by decide +kernel
theorem dX3_turnArcs_42 : decode cX3_turnArcs 42 = .ok (.iconst 1, 1) := by decide +kernel
theorem dX3_turnArcs_43 : decode cX3_turnArcs 43 = .ok (.goto 4, 3) := by decide +kernel
theorem dX3_turnArcs_46 : decode cX3_turnArcs 46 = .ok (.iconst 0, 1) := by decide +kernel
theorem dX3_turnArcs_47 : decode cX3_turnArcs 47 = .ok (.istore 5, 2) := by decide +kernel
theorem dX3_turnArcs_49 : decode cX3_turnArcs 49 = .ok (.iload 5, 2) := by decide +kernel
theorem dX3_turnArcs_51 : decode cX3_turnArcs 51 = .ok (.ifCond .ne 23, 3) := by decide +kernel
theorem dX3_turnArcs_54 : decode cX3_turnArcs 54 = .ok (.aload_n 0, 1) := by decide +kernel
theorem dX3_turnArcs_55 : decode cX3_turnArcs 55 = .ok (.iload 4, 2) := by decide +kernel
theorem dX3_turnArcs_57 : decode cX3_turnArcs 57 = .ok (.aload_n 0, 1) := by decide +kernel
theorem dX3_turnArcs_58 : decode cX3_turnArcs 58 = .ok (.iload 4, 2) := by decide +kernel
theorem dX3_turnArcs_60 : decode cX3_turnArcs 60 = .ok (.invokevirtual 72, 3) := by decide +kernel
theorem dX3_turnArcs_63 : decode cX3_turnArcs 63 = .ok (.lconst 1, 1) := by decide +kernel
theorem dX3_turnArcs_64 : decode cX3_turnArcs 64 = .ok (.iload_n 2, 1) := by decide +kernel
theorem dX3_turnArcs_65 : decode cX3_turnArcs 65 = .ok (.lshl, 1) := by decide +kernel
theorem dX3_turnArcs_66 : decode cX3_turnArcs 66 = .ok (.ldc2_w 75, 3) := by decide +kernel
theorem dX3_turnArcs_69 : decode cX3_turnArcs 69 = .ok (.lxor, 1) := by decide +kernel
theorem dX3_turnArcs_70 : decode cX3_turnArcs 70 = .ok (.land, 1) := by decide +kernel
theorem dX3_turnArcs_71 : decode cX3_turnArcs 71 = .ok (.invokevirtual 51, 3) := by decide +kernel
theorem dX3_turnArcs_74 : decode cX3_turnArcs 74 = .ok (.aload_n 0, 1) := by decide +kernel
theorem dX3_turnArcs_75 : decode cX3_turnArcs 75 = .ok (.iload_n 2, 1) := by decide +kernel
theorem dX3_turnArcs_76 : decode cX3_turnArcs 76 = .ok (.aload_n 0, 1) := by decide +kernel
theorem dX3_turnArcs_77 : decode cX3_turnArcs 77 = .ok (.iload_n 2, 1) := by decide +kernel
theorem dX3_turnArcs_78 : decode cX3_turnArcs 78 = .ok (.invokevirtual 72, 3) := by decide +kernel
theorem dX3_turnArcs_81 : decode cX3_turnArcs 81 = .ok (.lconst 1, 1) := by decide +kernel
theorem dX3_turnArcs_82 : decode cX3_turnArcs 82 = .ok (.iload 4, 2) := by decide +kernel
theorem dX3_turnArcs_84 : decode cX3_turnArcs 84 = .ok (.lshl, 1) := by decide +kernel
theorem dX3_turnArcs_85 : decode cX3_turnArcs 85 = .ok (.lor, 1) := by decide +kernel
theorem dX3_turnArcs_86 : decode cX3_turnArcs 86 = .ok (.invokevirtual 51, 3) := by decide +kernel
theorem dX3_turnArcs_89 : decode cX3_turnArcs 89 = .ok (.iload 4, 2) := by decide +kernel
theorem dX3_turnArcs_91 : decode cX3_turnArcs 91 = .ok (.istore_n 2, 1) := by decide +kernel
theorem dX3_turnArcs_92 : decode cX3_turnArcs 92 = .ok (.iinc 3 1, 3) := by decide +kernel
theorem dX3_turnArcs_95 : decode cX3_turnArcs 95 = .ok (.goto (-90), 3) := by decide +kernel
theorem dX3_turnArcs_98 : decode cX3_turnArcs 98 = .ok (.return_, 1) := by decide +kernel
theorem dX3_waysOut_0 : decode cX3_waysOut 0 = .ok (.lconst 0, 1) := by decide +kernel
theorem dX3_waysOut_1 : decode cX3_waysOut 1 = .ok (.lstore 4, 2) := by decide +kernel
theorem dX3_waysOut_3 : decode cX3_waysOut 3 = .ok (.iload_n 1, 1) := by decide +kernel
theorem dX3_waysOut_4 : decode cX3_waysOut 4 = .ok (.iconst 1, 1) := by decide +kernel
theorem dX3_waysOut_5 : decode cX3_waysOut 5 = .ok (.iadd, 1) := by decide +kernel
theorem dX3_waysOut_6 : decode cX3_waysOut 6 = .ok (.istore 6, 2) := by decide +kernel
theorem dX3_waysOut_8 : decode cX3_waysOut 8 = .ok (.iload 6, 2) := by decide +kernel
theorem dX3_waysOut_10 : decode cX3_waysOut 10 = .ok (.aload_n 0, 1) := by decide +kernel
theorem dX3_waysOut_11 : decode cX3_waysOut 11 = .ok (.getfield 34, 3) := by decide +kernel
theorem dX3_waysOut_14 : decode cX3_waysOut 14 = .ok (.if_icmp .ge 56, 3) := by decide +kernel
theorem dX3_waysOut_17 : decode cX3_waysOut 17 = .ok (.aload_n 0, 1) := by decide +kernel
theorem dX3_waysOut_18 : decode cX3_waysOut 18 = .ok (.iload 6, 2) := by decide +kernel
theorem dX3_waysOut_20 : decode cX3_waysOut 20 = .ok (.iload_n 1, 1) := by decide +kernel
theorem dX3_waysOut_21 : decode cX3_waysOut 21 = .ok (.invokevirtual 59, 3) := by decide +kernel
theorem dX3_waysOut_24 : decode cX3_waysOut 24 = .ok (.ifCond .eq 40, 3) := by decide +kernel
theorem dX3_waysOut_27 : decode cX3_waysOut 27 = .ok (.lload 4, 2) := by decide +kernel
theorem dX3_waysOut_29 : decode cX3_waysOut 29 = .ok (.iload_n 3, 1) := by decide +kernel
theorem dX3_waysOut_30 : decode cX3_waysOut 30 = .ok (.iload 6, 2) := by decide +kernel
theorem dX3_waysOut_32 : decode cX3_waysOut 32 = .ok (.invokestatic 47, 3) := by decide +kernel
theorem dX3_waysOut_35 : decode cX3_waysOut 35 = .ok (.ifCond .eq 9, 3) := by decide +kernel
theorem dX3_waysOut_38 : decode cX3_waysOut 38 = .ok (.ldc2_w 62, 3) := by decide +kernel
theorem dX3_waysOut_41 : decode cX3_waysOut 41 = .ok (.goto 20, 3) := by decide +kernel
theorem dX3_waysOut_44 : decode cX3_waysOut 44 = .ok (.iload_n 2, 1) := by decide +kernel
theorem dX3_waysOut_45 : decode cX3_waysOut 45 = .ok (.iload 6, 2) := by decide +kernel
theorem dX3_waysOut_47 : decode cX3_waysOut 47 = .ok (.invokestatic 47, 3) := by decide +kernel
theorem dX3_waysOut_50 : decode cX3_waysOut 50 = .ok (.ifCond .eq 10, 3) := by decide +kernel
theorem dX3_waysOut_53 : decode cX3_waysOut 53 = .ok (.lconst 1, 1) := by decide +kernel
theorem dX3_waysOut_54 : decode cX3_waysOut 54 = .ok (.iload 6, 2) := by decide +kernel
theorem dX3_waysOut_56 : decode cX3_waysOut 56 = .ok (.lshl, 1) := by decide +kernel
theorem dX3_waysOut_57 : decode cX3_waysOut 57 = .ok (.goto 4, 3) := by decide +kernel
theorem dX3_waysOut_60 : decode cX3_waysOut 60 = .ok (.lconst 0, 1) := by decide +kernel
theorem dX3_waysOut_61 : decode cX3_waysOut 61 = .ok (.lor, 1) := by decide +kernel
theorem dX3_waysOut_62 : decode cX3_waysOut 62 = .ok (.lstore 4, 2) := by decide +kernel
theorem dX3_waysOut_64 : decode cX3_waysOut 64 = .ok (.iinc 6 1, 3) := by decide +kernel
theorem dX3_waysOut_67 : decode cX3_waysOut 67 = .ok (.goto (-59), 3) := by decide +kernel
theorem dX3_waysOut_70 : decode cX3_waysOut 70 = .ok (.lload 4, 2) := by decide +kernel
theorem dX3_waysOut_72 : decode cX3_waysOut 72 = .ok (.lreturn, 1) := by decide +kernel
theorem dX4_aimHere_0 : decode cX4_aimHere 0 = .ok (.iload_n 1, 1) := by decide +kernel
theorem dX4_aimHere_1 : decode cX4_aimHere 1 = .ok (.ifCond .lt 26, 3) := by decide +kernel
theorem dX4_aimHere_4 : decode cX4_aimHere 4 = .ok (.aload_n 0, 1) := by decide +kernel
theorem dX4_aimHere_5 : decode cX4_aimHere 5 = .ok (.getfield 28, 3) := by decide +kernel
theorem dX4_aimHere_8 : decode cX4_aimHere 8 = .ok (.iload_n 1, 1) := by decide +kernel
theorem dX4_aimHere_9 : decode cX4_aimHere 9 = .ok (.aload_n 0, 1) := by decide +kernel
theorem dX4_aimHere_10 : decode cX4_aimHere 10 = .ok (.getfield 28, 3) := by decide +kernel
theorem dX4_aimHere_13 : decode cX4_aimHere 13 = .ok (.iload_n 1, 1) := by decide +kernel
theorem dX4_aimHere_14 : decode cX4_aimHere 14 = .ok (.invokestatic 55, 3) := by decide +kernel
theorem dX4_aimHere_17 : decode cX4_aimHere 17 = .ok (.aload_n 0, 1) := by decide +kernel
theorem dX4_aimHere_18 : decode cX4_aimHere 18 = .ok (.getfield 19, 3) := by decide +kernel
theorem dX4_aimHere_21 : decode cX4_aimHere 21 = .ok (.iconst 4, 1) := by decide +kernel
theorem dX4_aimHere_22 : decode cX4_aimHere 22 = .ok (.ishl, 1) := by decide +kernel
theorem dX4_aimHere_23 : decode cX4_aimHere 23 = .ok (.ior, 1) := by decide +kernel
theorem dX4_aimHere_24 : decode cX4_aimHere 24 = .ok (.invokestatic 51, 3) := by decide +kernel
theorem dX4_aimHere_27 : decode cX4_aimHere 27 = .ok (.return_, 1) := by decide +kernel
theorem dX4_amount_0 : decode cX4_amount 0 = .ok (.iconst 0, 1) := by decide +kernel
theorem dX4_amount_1 : decode cX4_amount 1 = .ok (.istore_n 3, 1) := by decide +kernel
theorem dX4_amount_2 : decode cX4_amount 2 = .ok (.iload_n 3, 1) := by decide +kernel
theorem dX4_amount_3 : decode cX4_amount 3 = .ok (.aload_n 0, 1) := by decide +kernel
theorem dX4_amount_4 : decode cX4_amount 4 = .ok (.getfield 9, 3) := by decide +kernel
theorem dX4_amount_7 : decode cX4_amount 7 = .ok (.if_icmp .ge 59, 3) := by decide +kernel
theorem dX4_amount_10 : decode cX4_amount 10 = .ok (.aload_n 0, 1) := by decide +kernel
theorem dX4_amount_11 : decode cX4_amount 11 = .ok (.getfield 32, 3) := by decide +kernel
theorem dX4_amount_14 : decode cX4_amount 14 = .ok (.iload_n 3, 1) := by decide +kernel
theorem dX4_amount_15 : decode cX4_amount 15 = .ok (.invokestatic 55, 3) := by decide +kernel
theorem dX4_amount_18 : decode cX4_amount 18 = .ok (.iload_n 1, 1) := by decide +kernel
theorem dX4_amount_19 : decode cX4_amount 19 = .ok (.if_icmp .ne 41, 3) := by decide +kernel
theorem dX4_amount_22 : decode cX4_amount 22 = .ok (.aload_n 0, 1) := by decide +kernel
theorem dX4_amount_23 : decode cX4_amount 23 = .ok (.iload_n 3, 1) := by decide +kernel
theorem dX4_amount_24 : decode cX4_amount 24 = .ok (.invokevirtual 82, 3) := by decide +kernel
theorem dX4_amount_27 : decode cX4_amount 27 = .ok (.ifCond .eq 33, 3) := by decide +kernel
theorem dX4_amount_30 : decode cX4_amount 30 = .ok (.aload_n 0, 1) := by decide +kernel
theorem dX4_amount_31 : decode cX4_amount 31 = .ok (.aload_n 0, 1) := by decide +kernel
theorem dX4_amount_32 : decode cX4_amount 32 = .ok (.getfield 35, 3) := by decide +kernel
theorem dX4_amount_35 : decode cX4_amount 35 = .ok (.iload_n 3, 1) := by decide +kernel
theorem dX4_amount_36 : decode cX4_amount 36 = .ok (.invokestatic 55, 3) := by decide +kernel
theorem dX4_amount_39 : decode cX4_amount 39 = .ok (.aload_n 0, 1) := by decide +kernel
theorem dX4_amount_40 : decode cX4_amount 40 = .ok (.getfield 38, 3) := by decide +kernel
theorem dX4_amount_43 : decode cX4_amount 43 = .ok (.iload_n 3, 1) := by decide +kernel
theorem dX4_amount_44 : decode cX4_amount 44 = .ok (.invokestatic 55, 3) := by decide +kernel
theorem dX4_amount_47 : decode cX4_amount 47 = .ok (.invokevirtual 86, 3) := by decide +kernel
theorem dX4_amount_50 : decode cX4_amount 50 = .ok (.istore 4, 2) := by decide +kernel
theorem dX4_amount_52 : decode cX4_amount 52 = .ok (.iload 4, 2) := by decide +kernel
theorem dX4_amount_54 : decode cX4_amount 54 = .ok (.iconst 0, 1) := by decide +kernel
theorem dX4_amount_55 : decode cX4_amount 55 = .ok (.iload_n 2, 1) := by decide +kernel
theorem dX4_amount_56 : decode cX4_amount 56 = .ok (.invokestatic 90, 3) := by decide +kernel
theorem dX4_amount_59 : decode cX4_amount 59 = .ok (.ireturn, 1) := by decide +kernel
theorem dX4_amount_60 : decode cX4_amount 60 = .ok (.iinc 3 1, 3) := by decide +kernel
theorem dX4_amount_63 : decode cX4_amount 63 = .ok (.goto (-61), 3) := by decide +kernel
theorem dX4_amount_66 : decode cX4_amount 66 = .ok (.iconst 0, 1) := by decide +kernel
theorem dX4_amount_67 : decode cX4_amount 67 = .ok (.ireturn, 1) := by decide +kernel
theorem dX4_become_0 : decode cX4_become 0 = .ok (.aload_n 0, 1) := by decide +kernel
theorem dX4_become_1 : decode cX4_become 1 = .ok (.aload_n 1, 1) := by decide +kernel
theorem dX4_become_2 : decode cX4_become 2 = .ok (.getfield 9, 3) := by decide +kernel
theorem dX4_become_5 : decode cX4_become 5 = .ok (.putfield 9, 3) := by decide +kernel
theorem dX4_become_8 : decode cX4_become 8 = .ok (.aload_n 0, 1) := by decide +kernel
theorem dX4_become_9 : decode cX4_become 9 = .ok (.aload_n 1, 1) := by decide +kernel
theorem dX4_become_10 : decode cX4_become 10 = .ok (.getfield 15, 3) := by decide +kernel
theorem dX4_become_13 : decode cX4_become 13 = .ok (.putfield 15, 3) := by decide +kernel
theorem dX4_become_16 : decode cX4_become 16 = .ok (.aload_n 0, 1) := by decide +kernel
theorem dX4_become_17 : decode cX4_become 17 = .ok (.aload_n 1, 1) := by decide +kernel
theorem dX4_become_18 : decode cX4_become 18 = .ok (.getfield 19, 3) := by decide +kernel
theorem dX4_become_21 : decode cX4_become 21 = .ok (.putfield 19, 3) := by decide +kernel
theorem dX4_become_24 : decode cX4_become 24 = .ok (.aload_n 1, 1) := by decide +kernel
theorem dX4_become_25 : decode cX4_become 25 = .ok (.getfield 28, 3) := by decide +kernel
theorem dX4_become_28 : decode cX4_become 28 = .ok (.aload_n 0, 1) := by decide +kernel
theorem dX4_become_29 : decode cX4_become 29 = .ok (.getfield 28, 3) := by decide +kernel
theorem dX4_become_32 : decode cX4_become 32 = .ok (.invokestatic 47, 3) := by decide +kernel
theorem dX4_become_35 : decode cX4_become 35 = .ok (.aload_n 1, 1) := by decide +kernel
theorem dX4_become_36 : decode cX4_become 36 = .ok (.getfield 32, 3) := by decide +kernel
theorem dX4_become_39 : decode cX4_become 39 = .ok (.aload_n 0, 1) := by decide +kernel
theorem dX4_become_40 : decode cX4_become 40 = .ok (.getfield 32, 3) := by decide +kernel
theorem dX4_become_43 : decode cX4_become 43 = .ok (.invokestatic 47, 3) := by decide +kernel
theorem dX4_become_46 : decode cX4_become 46 = .ok (.aload_n 1, 1) := by decide +kernel
theorem dX4_become_47 : decode cX4_become 47 = .ok (.getfield 35, 3) := by decide +kernel
theorem dX4_become_50 : decode cX4_become 50 = .ok (.aload_n 0, 1) := by decide +kernel
theorem dX4_become_51 : decode cX4_become 51 = .ok (.getfield 35, 3) := by decide +kernel
theorem dX4_become_54 : decode cX4_become 54 = .ok (.invokestatic 47, 3) := by decide +kernel
theorem dX4_become_57 : decode cX4_become 57 = .ok (.aload_n 1, 1) := by decide +kernel
theorem dX4_become_58 : decode cX4_become 58 = .ok (.getfield 38, 3) := by decide +kernel
theorem dX4_become_61 : decode cX4_become 61 = .ok (.aload_n 0, 1) := by decide +kernel
theorem dX4_become_62 : decode cX4_become 62 = .ok (.getfield 38, 3) := by decide +kernel
theorem dX4_become_65 : decode cX4_become 65 = .ok (.invokestatic 47, 3) := by decide +kernel
theorem dX4_become_68 : decode cX4_become 68 = .ok (.return_, 1) := by decide +kernel
theorem dX4_clear_0 : decode cX4_clear 0 = .ok (.aload_n 0, 1) := by decide +kernel
theorem dX4_clear_1 : decode cX4_clear 1 = .ok (.iconst 0, 1) := by decide +kernel
theorem dX4_clear_2 : decode cX4_clear 2 = .ok (.putfield 9, 3) := by decide +kernel
theorem dX4_clear_5 : decode cX4_clear 5 = .ok (.aload_n 0, 1) := by decide +kernel
theorem dX4_clear_6 : decode cX4_clear 6 = .ok (.iconst 0, 1) := by decide +kernel
theorem dX4_clear_7 : decode cX4_clear 7 = .ok (.putfield 15, 3) := by decide +kernel
theorem dX4_clear_10 : decode cX4_clear 10 = .ok (.aload_n 0, 1) := by decide +kernel
theorem dX4_clear_11 : decode cX4_clear 11 = .ok (.iconst 0, 1) := by decide +kernel
theorem dX4_clear_12 : decode cX4_clear 12 = .ok (.putfield 19, 3) := by decide +kernel
theorem dX4_clear_15 : decode cX4_clear 15 = .ok (.return_, 1) := by decide +kernel
theorem dX4_closeClause_0 : decode cX4_closeClause 0 = .ok (.aload_n 0, 1) := by decide +kernel
theorem dX4_closeClause_1 : decode cX4_closeClause 1 = .ok (.dup, 1) := by decide +kernel
theorem dX4_closeClause_2 : decode cX4_closeClause 2 = .ok (.getfield 9, 3) := by decide +kernel
theorem dX4_closeClause_5 : decode cX4_closeClause 5 = .ok (.iconst 1, 1) := by decide +kernel
theorem dX4_closeClause_6 : decode cX4_closeClause 6 = .ok (.iadd, 1) := by decide +kernel
theorem dX4_closeClause_7 : decode cX4_closeClause 7 = .ok (.putfield 9, 3) := by decide +kernel
theorem dX4_closeClause_10 : decode cX4_closeClause 10 = .ok (.aload_n 0, 1) := by decide +kernel
theorem dX4_closeClause_11 : decode cX4_closeClause 11 = .ok (.getfield 35, 3) := by decide +kernel
theorem dX4_closeClause_14 : decode cX4_closeClause 14 = .ok (.aload_n 0, 1) := by decide +kernel
theorem dX4_closeClause_15 : decode cX4_closeClause 15 = .ok (.getfield 9, 3) := by decide +kernel
theorem dX4_closeClause_18 : decode cX4_closeClause 18 = .ok (.aload_n 0, 1) := by decide +kernel
theorem dX4_closeClause_19 : decode cX4_closeClause 19 = .ok (.getfield 19, 3) := by decide +kernel
theorem dX4_closeClause_22 : decode cX4_closeClause 22 = .ok (.invokestatic 51, 3) := by decide +kernel
theorem dX4_closeClause_25 : decode cX4_closeClause 25 = .ok (.return_, 1) := by decide +kernel
theorem dX4_conditionHolds_0 : decode cX4_conditionHolds 0 = .ok (.aload_n 0, 1) := by decide +kernel
theorem dX4_conditionHolds_1 : decode cX4_conditionHolds 1 = .ok (.aload_n 0, 1) := by decide +kernel
theorem dX4_conditionHolds_2 : decode cX4_conditionHolds 2 = .ok (.getfield 38, 3) := by decide +kernel
theorem dX4_conditionHolds_5 : decode cX4_conditionHolds 5 = .ok (.iload_n 1, 1) := by decide +kernel
theorem dX4_conditionHolds_6 : decode cX4_conditionHolds 6 = .ok (.invokestatic 55, 3) := by decide +kernel
theorem dX4_conditionHolds_9 : decode cX4_conditionHolds 9 = .ok (.aload_n 0, 1) := by decide +kernel
theorem dX4_conditionHolds_10 : decode cX4_conditionHolds 10 = .ok (.getfield 35, 3) := by decide +kernel
theorem dX4_conditionHolds_13 : decode cX4_conditionHolds 13 = .ok (.iload_n 1, 1) := by decide +kernel
theorem dX4_conditionHolds_14 : decode cX4_conditionHolds 14 = .ok (.iconst 1, 1) := by decide +kernel
theorem dX4_conditionHolds_15 : decode cX4_conditionHolds 15 = .ok (.iadd, 1) := by decide +kernel
theorem dX4_conditionHolds_16 : decode cX4_conditionHolds 16 = .ok (.invokestatic 55, 3) := by decide +kernel
theorem dX4_conditionHolds_19 : decode cX4_conditionHolds 19 = .ok (.invokevirtual 86, 3) := by decide +kernel
theorem dX4_conditionHolds_22 : decode cX4_conditionHolds 22 = .ok (.ifCond .eq 7, 3) := by decide +kernel
theorem dX4_conditionHolds_25 : decode cX4_conditionHolds 25 = .ok (.iconst 1, 1) := by decide +kernel
theorem dX4_conditionHolds_26 : decode cX4_conditionHolds 26 = .ok (.goto 4, 3) := by decide +kernel
theorem dX4_conditionHolds_29 : decode cX4_conditionHolds 29 = .ok (.iconst 0, 1) := by decide +kernel
theorem dX4_conditionHolds_30 : decode cX4_conditionHolds 30 = .ok (.ireturn, 1) := by decide +kernel
theorem dX4_emit_0 : decode cX4_emit 0 = .ok (.aload_n 0, 1) := by decide +kernel
theorem dX4_emit_1 : decode cX4_emit 1 = .ok (.getfield 28, 3) := by decide +kernel
theorem dX4_emit_4 : decode cX4_emit 4 = .ok (.aload_n 0, 1) := by decide +kernel
theorem dX4_emit_5 : decode cX4_emit 5 = .ok (.getfield 19, 3) := by decide +kernel
theorem dX4_emit_8 : decode cX4_emit 8 = .ok (.iload_n 2, 1) := by decide +kernel
theorem dX4_emit_9 : decode cX4_emit 9 = .ok (.iconst 4, 1) := by decide +kernel
theorem dX4_emit_10 : decode cX4_emit 10 = .ok (.ishl, 1) := by decide +kernel
theorem dX4_emit_11 : decode cX4_emit 11 = .ok (.iload_n 1, 1) := by decide +kernel
theorem dX4_emit_12 : decode cX4_emit 12 = .ok (.ior, 1) := by decide +kernel
theorem dX4_emit_13 : decode cX4_emit 13 = .ok (.invokestatic 51, 3) := by decide +kernel
theorem dX4_emit_16 : decode cX4_emit 16 = .ok (.aload_n 0, 1) := by decide +kernel
theorem dX4_emit_17 : decode cX4_emit 17 = .ok (.dup, 1) := by decide +kernel
theorem dX4_emit_18 : decode cX4_emit 18 = .ok (.getfield 19, 3) := by decide +kernel
theorem dX4_emit_21 : decode cX4_emit 21 = .ok (.iconst 1, 1) := by decide +kernel
theorem dX4_emit_22 : decode cX4_emit 22 = .ok (.iadd, 1) := by decide +kernel
theorem dX4_emit_23 : decode cX4_emit 23 = .ok (.putfield 19, 3) := by decide +kernel
theorem dX4_emit_26 : decode cX4_emit 26 = .ok (.aload_n 0, 1) := by decide +kernel
theorem dX4_emit_27 : decode cX4_emit 27 = .ok (.getfield 19, 3) := by decide +kernel
theorem dX4_emit_30 : decode cX4_emit 30 = .ok (.iconst 1, 1) := by decide +kernel
theorem dX4_emit_31 : decode cX4_emit 31 = .ok (.isub, 1) := by decide +kernel
theorem dX4_emit_32 : decode cX4_emit 32 = .ok (.ireturn, 1) := by decide +kernel
theorem dX4_init_0 : decode cX4_init 0 = .ok (.aload_n 0, 1) := by decide +kernel
theorem dX4_init_1 : decode cX4_init 1 = .ok (.invokespecial 3, 3) := by decide +kernel
theorem dX4_init_4 : decode cX4_init 4 = .ok (.aload_n 0, 1) := by decide +kernel
theorem dX4_init_5 : decode cX4_init 5 = .ok (.iconst 0, 1) := by decide +kernel
theorem dX4_init_6 : decode cX4_init 6 = .ok (.putfield 9, 3) := by decide +kernel
theorem dX4_init_9 : decode cX4_init 9 = .ok (.aload_n 0, 1) := by decide +kernel
theorem dX4_init_10 : decode cX4_init 10 = .ok (.iconst 0, 1) := by decide +kernel
theorem dX4_init_11 : decode cX4_init 11 = .ok (.putfield 15, 3) := by decide +kernel
theorem dX4_init_14 : decode cX4_init 14 = .ok (.aload_n 0, 1) := by decide +kernel
theorem dX4_init_15 : decode cX4_init 15 = .ok (.iconst 0, 1) := by decide +kernel
theorem dX4_init_16 : decode cX4_init 16 = .ok (.putfield 19, 3) := by decide +kernel
theorem dX4_init_19 : decode cX4_init 19 = .ok (.aload_n 0, 1) := by decide +kernel
theorem dX4_init_20 : decode cX4_init 20 = .ok (.iconst 0, 1) := by decide +kernel
theorem dX4_init_21 : decode cX4_init 21 = .ok (.putfield 22, 3) := by decide +kernel
theorem dX4_init_24 : decode cX4_init 24 = .ok (.aload_n 0, 1) := by decide +kernel
theorem dX4_init_25 : decode cX4_init 25 = .ok (.iconst 0, 1) := by decide +kernel
theorem dX4_init_26 : decode cX4_init 26 = .ok (.putfield 25, 3) := by decide +kernel
theorem dX4_init_29 : decode cX4_init 29 = .ok (.aload_n 0, 1) := by decide +kernel
theorem dX4_init_30 : decode cX4_init 30 = .ok (.sipush 200, 3) := by decide +kernel
theorem dX4_init_33 : decode cX4_init 33 = .ok (.newarray .int, 2) := by decide +kernel
theorem dX4_init_35 : decode cX4_init 35 = .ok (.putfield 28, 3) := by decide +kernel
theorem dX4_init_38 : decode cX4_init 38 = .ok (.aload_n 0, 1) := by decide +kernel
theorem dX4_init_39 : decode cX4_init 39 = .ok (.bipush 14, 2) := by decide +kernel
theorem dX4_init_41 : decode cX4_init 41 = .ok (.newarray .int, 2) := by decide +kernel
theorem dX4_init_43 : decode cX4_init 43 = .ok (.putfield 32, 3) := by decide +kernel
theorem dX4_init_46 : decode cX4_init 46 = .ok (.aload_n 0, 1) := by decide +kernel
theorem dX4_init_47 : decode cX4_init 47 = .ok (.bipush 15, 2) := by decide +kernel
theorem dX4_init_49 : decode cX4_init 49 = .ok (.newarray .int, 2) := by decide +kernel
theorem dX4_init_51 : decode cX4_init 51 = .ok (.putfield 35, 3) := by decide +kernel
theorem dX4_init_54 : decode cX4_init 54 = .ok (.aload_n 0, 1) := by decide +kernel
theorem dX4_init_55 : decode cX4_init 55 = .ok (.bipush 14, 2) := by decide +kernel
theorem dX4_init_57 : decode cX4_init 57 = .ok (.newarray .int, 2) := by decide +kernel
theorem dX4_init_59 : decode cX4_init 59 = .ok (.putfield 38, 3) := by decide +kernel
theorem dX4_init_62 : decode cX4_init 62 = .ok (.aload_n 0, 1) := by decide +kernel
theorem dX4_init_63 : decode cX4_init 63 = .ok (.bipush 8, 2) := by decide +kernel
theorem dX4_init_65 : decode cX4_init 65 = .ok (.newarray .int, 2) := by decide +kernel
theorem dX4_init_67 : decode cX4_init 67 = .ok (.putfield 41, 3) := by decide +kernel
theorem dX4_init_70 : decode cX4_init 70 = .ok (.aload_n 0, 1) := by decide +kernel
theorem dX4_init_71 : decode cX4_init 71 = .ok (.bipush 32, 2) := by decide +kernel
theorem dX4_init_73 : decode cX4_init 73 = .ok (.newarray .int, 2) := by decide +kernel
theorem dX4_init_75 : decode cX4_init 75 = .ok (.putfield 44, 3) := by decide +kernel
theorem dX4_init_78 : decode cX4_init 78 = .ok (.return_, 1) := by decide +kernel
theorem dX4_isRead_0 : decode cX4_isRead 0 = .ok (.iconst 0, 1) := by decide +kernel
theorem dX4_isRead_1 : decode cX4_isRead 1 = .ok (.istore_n 1, 1) := by decide +kernel
theorem dX4_isRead_2 : decode cX4_isRead 2 = .ok (.iload_n 1, 1) := by decide +kernel
theorem dX4_isRead_3 : decode cX4_isRead 3 = .ok (.aload_n 0, 1) := by decide +kernel
theorem dX4_isRead_4 : decode cX4_isRead 4 = .ok (.getfield 9, 3) := by decide +kernel
theorem dX4_isRead_7 : decode cX4_isRead 7 = .ok (.if_icmp .ge 32, 3) := by decide +kernel
theorem dX4_isRead_10 : decode cX4_isRead 10 = .ok (.aload_n 0, 1) := by decide +kernel
theorem dX4_isRead_11 : decode cX4_isRead 11 = .ok (.getfield 32, 3) := by decide +kernel
theorem dX4_isRead_14 : decode cX4_isRead 14 = .ok (.iload_n 1, 1) := by decide +kernel
theorem dX4_isRead_15 : decode cX4_isRead 15 = .ok (.invokestatic 55, 3) := by decide +kernel
theorem dX4_isRead_18 : decode cX4_isRead 18 = .ok (.bipush 114, 2) := by decide +kernel
theorem dX4_isRead_20 : decode cX4_isRead 20 = .ok (.if_icmp .ne 13, 3) := by decide +kernel
theorem dX4_isRead_23 : decode cX4_isRead 23 = .ok (.aload_n 0, 1) := by decide +kernel
theorem dX4_isRead_24 : decode cX4_isRead 24 = .ok (.iload_n 1, 1) := by decide +kernel
theorem dX4_isRead_25 : decode cX4_isRead 25 = .ok (.invokevirtual 82, 3) := by decide +kernel
theorem dX4_isRead_28 : decode cX4_isRead 28 = .ok (.ifCond .eq 5, 3) := by decide +kernel
theorem dX4_isRead_31 : decode cX4_isRead 31 = .ok (.iconst 1, 1) := by decide +kernel
theorem dX4_isRead_32 : decode cX4_isRead 32 = .ok (.ireturn, 1) := by decide +kernel
theorem dX4_isRead_33 : decode cX4_isRead 33 = .ok (.iinc 1 1, 3) := by decide +kernel
theorem dX4_isRead_36 : decode cX4_isRead 36 = .ok (.goto (-34), 3) := by decide +kernel
theorem dX4_isRead_39 : decode cX4_isRead 39 = .ok (.iconst 0, 1) := by decide +kernel
theorem dX4_isRead_40 : decode cX4_isRead 40 = .ok (.ireturn, 1) := by decide +kernel
theorem dX4_joined_0 : decode cX4_joined 0 = .ok (.iload_n 1, 1) := by decide +kernel
theorem dX4_joined_1 : decode cX4_joined 1 = .ok (.tableswitch 141 0 6 #[43, 47, 51, 55, 87, 119, 130], 43) := by decide +kernel
theorem dX4_joined_44 : decode cX4_joined 44 = .ok (.iload_n 2, 1) := by decide +kernel
theorem dX4_joined_45 : decode cX4_joined 45 = .ok (.iload_n 3, 1) := by decide +kernel
theorem dX4_joined_46 : decode cX4_joined 46 = .ok (.iadd, 1) := by decide +kernel
theorem dX4_joined_47 : decode cX4_joined 47 = .ok (.ireturn, 1) := by decide +kernel
theorem dX4_joined_48 : decode cX4_joined 48 = .ok (.iload_n 2, 1) := by decide +kernel
theorem dX4_joined_49 : decode cX4_joined 49 = .ok (.iload_n 3, 1) := by decide +kernel
theorem dX4_joined_50 : decode cX4_joined 50 = .ok (.isub, 1) := by decide +kernel
theorem dX4_joined_51 : decode cX4_joined 51 = .ok (.ireturn, 1) := by decide +kernel
theorem dX4_joined_52 : decode cX4_joined 52 = .ok (.iload_n 2, 1) := by decide +kernel
theorem dX4_joined_53 : decode cX4_joined 53 = .ok (.iload_n 3, 1) := by decide +kernel
theorem dX4_joined_54 : decode cX4_joined 54 = .ok (.imul, 1) := by decide +kernel
theorem dX4_joined_55 : decode cX4_joined 55 = .ok (.ireturn, 1) := by decide +kernel
theorem dX4_joined_56 : decode cX4_joined 56 = .ok (.aload_n 0, 1) := by decide +kernel
theorem dX4_joined_57 : decode cX4_joined 57 = .ok (.aload_n 0, 1) := by decide +kernel
theorem dX4_joined_58 : decode cX4_joined 58 = .ok (.getfield 22, 3) := by decide +kernel
theorem dX4_joined_61 : decode cX4_joined 61 = .ok (.ifCond .ne 7, 3) := by decide +kernel
theorem dX4_joined_64 : decode cX4_joined 64 = .ok (.iload_n 3, 1) := by decide +kernel
theorem dX4_joined_65 : decode cX4_joined 65 = .ok (.ifCond .ne 7, 3) := by decide +kernel
theorem dX4_joined_68 : decode cX4_joined 68 = .ok (.iconst 1, 1) := by decide +kernel
theorem dX4_joined_69 : decode cX4_joined 69 = .ok (.goto 4, 3) := by decide +kernel
theorem dX4_joined_72 : decode cX4_joined 72 = .ok (.iconst 0, 1) := by decide +kernel
theorem dX4_joined_73 : decode cX4_joined 73 = .ok (.putfield 22, 3) := by decide +kernel
theorem dX4_joined_76 : decode cX4_joined 76 = .ok (.iload_n 3, 1) := by decide +kernel
theorem dX4_joined_77 : decode cX4_joined 77 = .ok (.ifCond .ne 7, 3) := by decide +kernel
theorem dX4_joined_80 : decode cX4_joined 80 = .ok (.iconst 0, 1) := by decide +kernel
theorem dX4_joined_81 : decode cX4_joined 81 = .ok (.goto 6, 3) := by decide +kernel
theorem dX4_joined_84 : decode cX4_joined 84 = .ok (.iload_n 2, 1) := by decide +kernel
theorem dX4_joined_85 : decode cX4_joined 85 = .ok (.iload_n 3, 1) := by decide +kernel
theorem dX4_joined_86 : decode cX4_joined 86 = .ok (.idiv, 1) := by decide +kernel
theorem dX4_joined_87 : decode cX4_joined 87 = .ok (.ireturn, 1) := by decide +kernel
theorem dX4_joined_88 : decode cX4_joined 88 = .ok (.aload_n 0, 1) := by decide +kernel
theorem dX4_joined_89 : decode cX4_joined 89 = .ok (.aload_n 0, 1) := by decide +kernel
theorem dX4_joined_90 : decode cX4_joined 90 = .ok (.getfield 22, 3) := by decide +kernel
theorem dX4_joined_93 : decode cX4_joined 93 = .ok (.ifCond .ne 7, 3) := by decide +kernel
theorem dX4_joined_96 : decode cX4_joined 96 = .ok (.iload_n 3, 1) := by decide +kernel
theorem dX4_joined_97 : decode cX4_joined 97 = .ok (.ifCond .ne 7, 3) := by decide +kernel
theorem dX4_joined_100 : decode cX4_joined 100 = .ok (.iconst 1, 1) := by decide +kernel
theorem dX4_joined_101 : decode cX4_joined 101 = .ok (.goto 4, 3) := by decide +kernel
theorem dX4_joined_104 : decode cX4_joined 104 = .ok (.iconst 0, 1) := by decide +kernel
theorem dX4_joined_105 : decode cX4_joined 105 = .ok (.putfield 22, 3) := by decide +kernel
theorem dX4_joined_108 : decode cX4_joined 108 = .ok (.iload_n 3, 1) := by decide +kernel
theorem dX4_joined_109 : decode cX4_joined 109 = .ok (.ifCond .ne 7, 3) := by decide +kernel
theorem dX4_joined_112 : decode cX4_joined 112 = .ok (.iconst 0, 1) := by decide +kernel
theorem dX4_joined_113 : decode cX4_joined 113 = .ok (.goto 6, 3) := by decide +kernel
theorem dX4_joined_116 : decode cX4_joined 116 = .ok (.iload_n 2, 1) := by decide +kernel
theorem dX4_joined_117 : decode cX4_joined 117 = .ok (.iload_n 3, 1) := by decide +kernel
theorem dX4_joined_118 : decode cX4_joined 118 = .ok (.irem, 1) := by decide +kernel
theorem dX4_joined_119 : decode cX4_joined 119 = .ok (.ireturn, 1) := by decide +kernel
theorem dX4_joined_120 : decode cX4_joined 120 = .ok (.iload_n 2, 1) := by decide +kernel
theorem dX4_joined_121 : decode cX4_joined 121 = .ok (.iload_n 3, 1) := by decide +kernel
theorem dX4_joined_122 : decode cX4_joined 122 = .ok (.if_icmp .ge 7, 3) := by decide +kernel
theorem dX4_joined_125 : decode cX4_joined 125 = .ok (.iconst 1, 1) := by decide +kernel
theorem dX4_joined_126 : decode cX4_joined 126 = .ok (.goto 4, 3) := by decide +kernel
theorem dX4_joined_129 : decode cX4_joined 129 = .ok (.iconst 0, 1) := by decide +kernel
theorem dX4_joined_130 : decode cX4_joined 130 = .ok (.ireturn, 1) := by decide +kernel
theorem dX4_joined_131 : decode cX4_joined 131 = .ok (.iload_n 2, 1) := by decide +kernel
theorem dX4_joined_132 : decode cX4_joined 132 = .ok (.iload_n 3, 1) := by decide +kernel
theorem dX4_joined_133 : decode cX4_joined 133 = .ok (.if_icmp .le 7, 3) := by decide +kernel
theorem dX4_joined_136 : decode cX4_joined 136 = .ok (.iconst 1, 1) := by decide +kernel
theorem dX4_joined_137 : decode cX4_joined 137 = .ok (.goto 4, 3) := by decide +kernel
theorem dX4_joined_140 : decode cX4_joined 140 = .ok (.iconst 0, 1) := by decide +kernel
theorem dX4_joined_141 : decode cX4_joined 141 = .ok (.ireturn, 1) := by decide +kernel
theorem dX4_joined_142 : decode cX4_joined 142 = .ok (.iload_n 2, 1) := by decide +kernel
theorem dX4_joined_143 : decode cX4_joined 143 = .ok (.iload_n 3, 1) := by decide +kernel
theorem dX4_joined_144 : decode cX4_joined 144 = .ok (.if_icmp .ne 7, 3) := by decide +kernel
theorem dX4_joined_147 : decode cX4_joined 147 = .ok (.iconst 1, 1) := by decide +kernel
theorem dX4_joined_148 : decode cX4_joined 148 = .ok (.goto 4, 3) := by decide +kernel
theorem dX4_joined_151 : decode cX4_joined 151 = .ok (.iconst 0, 1) := by decide +kernel
theorem dX4_joined_152 : decode cX4_joined 152 = .ok (.ireturn, 1) := by decide +kernel
theorem dX4_lookAt_0 : decode cX4_lookAt 0 = .ok (.aload_n 1, 1) := by decide +kernel
theorem dX4_lookAt_1 : decode cX4_lookAt 1 = .ok (.getfield 59, 3) := by decide +kernel
theorem dX4_lookAt_4 : decode cX4_lookAt 4 = .ok (.astore 5, 2) := by decide +kernel
theorem dX4_lookAt_6 : decode cX4_lookAt 6 = .ok (.aload_n 0, 1) := by decide +kernel
theorem dX4_lookAt_7 : decode cX4_lookAt 7 = .ok (.getfield 41, 3) := by decide +kernel
theorem dX4_lookAt_10 : decode cX4_lookAt 10 = .ok (.iconst 0, 1) := by decide +kernel
theorem dX4_lookAt_11 : decode cX4_lookAt 11 = .ok (.iload_n 2, 1) := by decide +kernel
theorem dX4_lookAt_12 : decode cX4_lookAt 12 = .ok (.invokestatic 51, 3) := by decide +kernel
theorem dX4_lookAt_15 : decode cX4_lookAt 15 = .ok (.aload_n 0, 1) := by decide +kernel
theorem dX4_lookAt_16 : decode cX4_lookAt 16 = .ok (.getfield 41, 3) := by decide +kernel
theorem dX4_lookAt_19 : decode cX4_lookAt 19 = .ok (.iconst 1, 1) := by decide +kernel
theorem dX4_lookAt_20 : decode cX4_lookAt 20 = .ok (.aload 5, 2) := by decide +kernel
theorem dX4_lookAt_22 : decode cX4_lookAt 22 = .ok (.getfield 65, 3) := by decide +kernel
theorem dX4_lookAt_25 : decode cX4_lookAt 25 = .ok (.iload_n 2, 1) := by decide +kernel
theorem dX4_lookAt_26 : decode cX4_lookAt 26 = .ok (.invokestatic 55, 3) := by decide +kernel
theorem dX4_lookAt_29 : decode cX4_lookAt 29 = .ok (.invokestatic 51, 3) := by decide +kernel
theorem dX4_lookAt_32 : decode cX4_lookAt 32 = .ok (.aload_n 0, 1) := by decide +kernel
theorem dX4_lookAt_33 : decode cX4_lookAt 33 = .ok (.getfield 41, 3) := by decide +kernel
theorem dX4_lookAt_36 : decode cX4_lookAt 36 = .ok (.iconst 2, 1) := by decide +kernel
theorem dX4_lookAt_37 : decode cX4_lookAt 37 = .ok (.iload_n 3, 1) := by decide +kernel
theorem dX4_lookAt_38 : decode cX4_lookAt 38 = .ok (.invokestatic 51, 3) := by decide +kernel
theorem dX4_lookAt_41 : decode cX4_lookAt 41 = .ok (.aload_n 0, 1) := by decide +kernel
theorem dX4_lookAt_42 : decode cX4_lookAt 42 = .ok (.getfield 41, 3) := by decide +kernel
theorem dX4_lookAt_45 : decode cX4_lookAt 45 = .ok (.iconst 3, 1) := by decide +kernel
theorem dX4_lookAt_46 : decode cX4_lookAt 46 = .ok (.aload 5, 2) := by decide +kernel
theorem dX4_lookAt_48 : decode cX4_lookAt 48 = .ok (.getfield 70, 3) := by decide +kernel
theorem dX4_lookAt_51 : decode cX4_lookAt 51 = .ok (.iload_n 2, 1) := by decide +kernel
theorem dX4_lookAt_52 : decode cX4_lookAt 52 = .ok (.invokestatic 55, 3) := by decide +kernel
theorem dX4_lookAt_55 : decode cX4_lookAt 55 = .ok (.invokestatic 51, 3) := by decide +kernel
theorem dX4_lookAt_58 : decode cX4_lookAt 58 = .ok (.aload_n 0, 1) := by decide +kernel
theorem dX4_lookAt_59 : decode cX4_lookAt 59 = .ok (.getfield 41, 3) := by decide +kernel
theorem dX4_lookAt_62 : decode cX4_lookAt 62 = .ok (.iconst 4, 1) := by decide +kernel
theorem dX4_lookAt_63 : decode cX4_lookAt 63 = .ok (.aload 5, 2) := by decide +kernel
theorem dX4_lookAt_65 : decode cX4_lookAt 65 = .ok (.getfield 73, 3) := by decide +kernel
theorem dX4_lookAt_68 : decode cX4_lookAt 68 = .ok (.iload_n 2, 1) := by decide +kernel
theorem dX4_lookAt_69 : decode cX4_lookAt 69 = .ok (.invokestatic 55, 3) := by decide +kernel
theorem dX4_lookAt_72 : decode cX4_lookAt 72 = .ok (.invokestatic 51, 3) := by decide +kernel
theorem dX4_lookAt_75 : decode cX4_lookAt 75 = .ok (.aload_n 0, 1) := by decide +kernel
theorem dX4_lookAt_76 : decode cX4_lookAt 76 = .ok (.getfield 41, 3) := by decide +kernel
theorem dX4_lookAt_79 : decode cX4_lookAt 79 = .ok (.iconst 5, 1) := by decide +kernel
theorem dX4_lookAt_80 : decode cX4_lookAt 80 = .ok (.aload 5, 2) := by decide +kernel
theorem dX4_lookAt_82 : decode cX4_lookAt 82 = .ok (.getfield 76, 3) := by decide +kernel
theorem dX4_lookAt_85 : decode cX4_lookAt 85 = .ok (.invokestatic 51, 3) := by decide +kernel
theorem dX4_lookAt_88 : decode cX4_lookAt 88 = .ok (.aload_n 0, 1) := by decide +kernel
theorem dX4_lookAt_89 : decode cX4_lookAt 89 = .ok (.getfield 41, 3) := by decide +kernel
theorem dX4_lookAt_92 : decode cX4_lookAt 92 = .ok (.bipush 6, 2) := by decide +kernel
theorem dX4_lookAt_94 : decode cX4_lookAt 94 = .ok (.aload_n 1, 1) := by decide +kernel
theorem dX4_lookAt_95 : decode cX4_lookAt 95 = .ok (.getfield 79, 3) := by decide +kernel
theorem dX4_lookAt_98 : decode cX4_lookAt 98 = .ok (.invokestatic 51, 3) := by decide +kernel
theorem dX4_lookAt_101 : decode cX4_lookAt 101 = .ok (.aload_n 0, 1) := by decide +kernel
theorem dX4_lookAt_102 : decode cX4_lookAt 102 = .ok (.getfield 41, 3) := by decide +kernel
theorem dX4_lookAt_105 : decode cX4_lookAt 105 = .ok (.bipush 7, 2) := by decide +kernel
theorem dX4_lookAt_107 : decode cX4_lookAt 107 = .ok (.iload 4, 2) := by decide +kernel
theorem dX4_lookAt_109 : decode cX4_lookAt 109 = .ok (.invokestatic 51, 3) := by decide +kernel
theorem dX4_lookAt_112 : decode cX4_lookAt 112 = .ok (.return_, 1) := by decide +kernel
theorem dX4_openClause_0 : decode cX4_openClause 0 = .ok (.aload_n 0, 1) := by decide +kernel
theorem dX4_openClause_1 : decode cX4_openClause 1 = .ok (.getfield 32, 3) := by decide +kernel
theorem dX4_openClause_4 : decode cX4_openClause 4 = .ok (.aload_n 0, 1) := by decide +kernel
theorem dX4_openClause_5 : decode cX4_openClause 5 = .ok (.getfield 9, 3) := by decide +kernel
theorem dX4_openClause_8 : decode cX4_openClause 8 = .ok (.iload_n 1, 1) := by decide +kernel
theorem dX4_openClause_9 : decode cX4_openClause 9 = .ok (.invokestatic 51, 3) := by decide +kernel
theorem dX4_openClause_12 : decode cX4_openClause 12 = .ok (.return_, 1) := by decide +kernel
theorem dX4_openCondition_0 : decode cX4_openCondition 0 = .ok (.aload_n 0, 1) := by decide +kernel
theorem dX4_openCondition_1 : decode cX4_openCondition 1 = .ok (.getfield 38, 3) := by decide +kernel
theorem dX4_openCondition_4 : decode cX4_openCondition 4 = .ok (.aload_n 0, 1) := by decide +kernel
theorem dX4_openCondition_5 : decode cX4_openCondition 5 = .ok (.getfield 9, 3) := by decide +kernel
theorem dX4_openCondition_8 : decode cX4_openCondition 8 = .ok (.aload_n 0, 1) := by decide +kernel
theorem dX4_openCondition_9 : decode cX4_openCondition 9 = .ok (.getfield 19, 3) := by decide +kernel
theorem dX4_openCondition_12 : decode cX4_openCondition 12 = .ok (.invokestatic 51, 3) := by decide +kernel
theorem dX4_openCondition_15 : decode cX4_openCondition 15 = .ok (.return_, 1) := by decide +kernel
theorem dX4_pop_0 : decode cX4_pop 0 = .ok (.aload_n 0, 1) := by decide +kernel
theorem dX4_pop_1 : decode cX4_pop 1 = .ok (.iconst 0, 1) := by decide +kernel
theorem dX4_pop_2 : decode cX4_pop 2 = .ok (.aload_n 0, 1) := by decide +kernel
theorem dX4_pop_3 : decode cX4_pop 3 = .ok (.getfield 25, 3) := by decide +kernel
theorem dX4_pop_6 : decode cX4_pop 6 = .ok (.iconst 1, 1) := by decide +kernel
theorem dX4_pop_7 : decode cX4_pop 7 = .ok (.isub, 1) := by decide +kernel
theorem dX4_pop_8 : decode cX4_pop 8 = .ok (.invokestatic 105, 3) := by decide +kernel
theorem dX4_pop_11 : decode cX4_pop 11 = .ok (.putfield 25, 3) := by decide +kernel
theorem dX4_pop_14 : decode cX4_pop 14 = .ok (.aload_n 0, 1) := by decide +kernel
theorem dX4_pop_15 : decode cX4_pop 15 = .ok (.getfield 44, 3) := by decide +kernel
theorem dX4_pop_18 : decode cX4_pop 18 = .ok (.aload_n 0, 1) := by decide +kernel
theorem dX4_pop_19 : decode cX4_pop 19 = .ok (.getfield 25, 3) := by decide +kernel
theorem dX4_pop_22 : decode cX4_pop 22 = .ok (.invokestatic 55, 3) := by decide +kernel
theorem dX4_pop_25 : decode cX4_pop 25 = .ok (.ireturn, 1) := by decide +kernel
theorem dX4_push_0 : decode cX4_push 0 = .ok (.aload_n 0, 1) := by decide +kernel
theorem dX4_push_1 : decode cX4_push 1 = .ok (.getfield 44, 3) := by decide +kernel
theorem dX4_push_4 : decode cX4_push 4 = .ok (.aload_n 0, 1) := by decide +kernel
theorem dX4_push_5 : decode cX4_push 5 = .ok (.getfield 25, 3) := by decide +kernel
theorem dX4_push_8 : decode cX4_push 8 = .ok (.iload_n 1, 1) := by decide +kernel
theorem dX4_push_9 : decode cX4_push 9 = .ok (.invokestatic 51, 3) := by decide +kernel
theorem dX4_push_12 : decode cX4_push 12 = .ok (.aload_n 0, 1) := by decide +kernel
theorem dX4_push_13 : decode cX4_push 13 = .ok (.dup, 1) := by decide +kernel
theorem dX4_push_14 : decode cX4_push 14 = .ok (.getfield 25, 3) := by decide +kernel
theorem dX4_push_17 : decode cX4_push 17 = .ok (.iconst 1, 1) := by decide +kernel
theorem dX4_push_18 : decode cX4_push 18 = .ok (.iadd, 1) := by decide +kernel
theorem dX4_push_19 : decode cX4_push 19 = .ok (.putfield 25, 3) := by decide +kernel
theorem dX4_push_22 : decode cX4_push 22 = .ok (.return_, 1) := by decide +kernel
theorem dX4_run_0 : decode cX4_run 0 = .ok (.aload_n 0, 1) := by decide +kernel
theorem dX4_run_1 : decode cX4_run 1 = .ok (.iconst 0, 1) := by decide +kernel
theorem dX4_run_2 : decode cX4_run 2 = .ok (.putfield 22, 3) := by decide +kernel
theorem dX4_run_5 : decode cX4_run 5 = .ok (.aload_n 0, 1) := by decide +kernel
theorem dX4_run_6 : decode cX4_run 6 = .ok (.iconst 0, 1) := by decide +kernel
theorem dX4_run_7 : decode cX4_run 7 = .ok (.putfield 25, 3) := by decide +kernel
theorem dX4_run_10 : decode cX4_run 10 = .ok (.iload_n 1, 1) := by decide +kernel
theorem dX4_run_11 : decode cX4_run 11 = .ok (.istore_n 3, 1) := by decide +kernel
theorem dX4_run_12 : decode cX4_run 12 = .ok (.iconst 0, 1) := by decide +kernel
theorem dX4_run_13 : decode cX4_run 13 = .ok (.istore 4, 2) := by decide +kernel
theorem dX4_run_15 : decode cX4_run 15 = .ok (.iload 4, 2) := by decide +kernel
theorem dX4_run_17 : decode cX4_run 17 = .ok (.sipush 200, 3) := by decide +kernel
theorem dX4_run_20 : decode cX4_run 20 = .ok (.if_icmp .ge 174, 3) := by decide +kernel
theorem dX4_run_23 : decode cX4_run 23 = .ok (.iload_n 3, 1) := by decide +kernel
theorem dX4_run_24 : decode cX4_run 24 = .ok (.iload_n 2, 1) := by decide +kernel
theorem dX4_run_25 : decode cX4_run 25 = .ok (.if_icmp .ge 169, 3) := by decide +kernel
theorem dX4_run_28 : decode cX4_run 28 = .ok (.aload_n 0, 1) := by decide +kernel
theorem dX4_run_29 : decode cX4_run 29 = .ok (.getfield 22, 3) := by decide +kernel
theorem dX4_run_32 : decode cX4_run 32 = .ok (.ifCond .ne 162, 3) := by decide +kernel
theorem dX4_run_35 : decode cX4_run 35 = .ok (.aload_n 0, 1) := by decide +kernel
theorem dX4_run_36 : decode cX4_run 36 = .ok (.getfield 28, 3) := by decide +kernel
theorem dX4_run_39 : decode cX4_run 39 = .ok (.iload_n 3, 1) := by decide +kernel
theorem dX4_run_40 : decode cX4_run 40 = .ok (.invokestatic 55, 3) := by decide +kernel
theorem dX4_run_43 : decode cX4_run 43 = .ok (.bipush 15, 2) := by decide +kernel
theorem dX4_run_45 : decode cX4_run 45 = .ok (.iand, 1) := by decide +kernel
theorem dX4_run_46 : decode cX4_run 46 = .ok (.istore 5, 2) := by decide +kernel
theorem dX4_run_48 : decode cX4_run 48 = .ok (.aload_n 0, 1) := by decide +kernel
theorem dX4_run_49 : decode cX4_run 49 = .ok (.getfield 28, 3) := by decide +kernel
theorem dX4_run_52 : decode cX4_run 52 = .ok (.iload_n 3, 1) := by decide +kernel
theorem dX4_run_53 : decode cX4_run 53 = .ok (.invokestatic 55, 3) := by decide +kernel
theorem dX4_run_56 : decode cX4_run 56 = .ok (.iconst 4, 1) := by decide +kernel
theorem dX4_run_57 : decode cX4_run 57 = .ok (.ishr, 1) := by decide +kernel
theorem dX4_run_58 : decode cX4_run 58 = .ok (.istore 6, 2) := by decide +kernel
theorem dX4_run_60 : decode cX4_run 60 = .ok (.iinc 3 1, 3) := by decide +kernel
theorem dX4_run_63 : decode cX4_run 63 = .ok (.iload 5, 2) := by decide +kernel
theorem dX4_run_65 : decode cX4_run 65 = .ok (.ifCond .ne 12, 3) := by decide +kernel
theorem dX4_run_68 : decode cX4_run 68 = .ok (.aload_n 0, 1) := by decide +kernel
theorem dX4_run_69 : decode cX4_run 69 = .ok (.iload 6, 2) := by decide +kernel
theorem dX4_run_71 : decode cX4_run 71 = .ok (.invokevirtual 94, 3) := by decide +kernel
theorem dX4_run_74 : decode cX4_run 74 = .ok (.goto 114, 3) := by decide +kernel
theorem dX4_run_77 : decode cX4_run 77 = .ok (.iload 5, 2) := by decide +kernel
theorem dX4_run_79 : decode cX4_run 79 = .ok (.iconst 1, 1) := by decide +kernel
theorem dX4_run_80 : decode cX4_run 80 = .ok (.if_icmp .ne 19, 3) := by decide +kernel
theorem dX4_run_83 : decode cX4_run 83 = .ok (.aload_n 0, 1) := by decide +kernel
theorem dX4_run_84 : decode cX4_run 84 = .ok (.aload_n 0, 1) := by decide +kernel
theorem dX4_run_85 : decode cX4_run 85 = .ok (.getfield 41, 3) := by decide +kernel
theorem dX4_run_88 : decode cX4_run 88 = .ok (.iload 6, 2) := by decide +kernel
theorem dX4_run_90 : decode cX4_run 90 = .ok (.invokestatic 55, 3) := by decide +kernel
theorem dX4_run_93 : decode cX4_run 93 = .ok (.invokevirtual 94, 3) := by decide +kernel
theorem dX4_run_96 : decode cX4_run 96 = .ok (.goto 92, 3) := by decide +kernel
theorem dX4_run_99 : decode cX4_run 99 = .ok (.iload 5, 2) := by decide +kernel
theorem dX4_run_101 : decode cX4_run 101 = .ok (.iconst 2, 1) := by decide +kernel
theorem dX4_run_102 : decode cX4_run 102 = .ok (.if_icmp .ne 16, 3) := by decide +kernel
theorem dX4_run_105 : decode cX4_run 105 = .ok (.aload_n 0, 1) := by decide +kernel
theorem dX4_run_106 : decode cX4_run 106 = .ok (.iconst 1, 1) := by decide +kernel
theorem dX4_run_107 : decode cX4_run 107 = .ok (.aload_n 0, 1) := by decide +kernel
theorem dX4_run_108 : decode cX4_run 108 = .ok (.invokevirtual 98, 3) := by decide +kernel
theorem dX4_run_111 : decode cX4_run 111 = .ok (.isub, 1) := by decide +kernel
theorem dX4_run_112 : decode cX4_run 112 = .ok (.invokevirtual 94, 3) := by decide +kernel
theorem dX4_run_115 : decode cX4_run 115 = .ok (.goto 73, 3) := by decide +kernel
theorem dX4_run_118 : decode cX4_run 118 = .ok (.iload 5, 2) := by decide +kernel
theorem dX4_run_120 : decode cX4_run 120 = .ok (.iconst 3, 1) := by decide +kernel
theorem dX4_run_121 : decode cX4_run 121 = .ok (.if_icmp .eq 9, 3) := by decide +kernel
theorem dX4_run_124 : decode cX4_run 124 = .ok (.iload 5, 2) := by decide +kernel
theorem dX4_run_126 : decode cX4_run 126 = .ok (.iconst 4, 1) := by decide +kernel
theorem dX4_run_127 : decode cX4_run 127 = .ok (.if_icmp .ne 37, 3) := by decide +kernel
theorem dX4_run_130 : decode cX4_run 130 = .ok (.aload_n 0, 1) := by decide +kernel
theorem dX4_run_131 : decode cX4_run 131 = .ok (.invokevirtual 98, 3) := by decide +kernel
theorem dX4_run_134 : decode cX4_run 134 = .ok (.istore 7, 2) := by decide +kernel
theorem dX4_run_136 : decode cX4_run 136 = .ok (.iload 7, 2) := by decide +kernel
theorem dX4_run_138 : decode cX4_run 138 = .ok (.iload 5, 2) := by decide +kernel
theorem dX4_run_140 : decode cX4_run 140 = .ok (.iconst 4, 1) := by decide +kernel
theorem dX4_run_141 : decode cX4_run 141 = .ok (.if_icmp .ne 7, 3) := by decide +kernel
theorem dX4_run_144 : decode cX4_run 144 = .ok (.iconst 1, 1) := by decide +kernel
theorem dX4_run_145 : decode cX4_run 145 = .ok (.goto 4, 3) := by decide +kernel
theorem dX4_run_148 : decode cX4_run 148 = .ok (.iconst 0, 1) := by decide +kernel
theorem dX4_run_149 : decode cX4_run 149 = .ok (.if_icmp .ne 12, 3) := by decide +kernel
theorem dX4_run_152 : decode cX4_run 152 = .ok (.aload_n 0, 1) := by decide +kernel
theorem dX4_run_153 : decode cX4_run 153 = .ok (.iload 7, 2) := by decide +kernel
theorem dX4_run_155 : decode cX4_run 155 = .ok (.invokevirtual 94, 3) := by decide +kernel
theorem dX4_run_158 : decode cX4_run 158 = .ok (.iload 6, 2) := by decide +kernel
theorem dX4_run_160 : decode cX4_run 160 = .ok (.istore_n 3, 1) := by decide +kernel
theorem dX4_run_161 : decode cX4_run 161 = .ok (.goto 27, 3) := by decide +kernel
theorem dX4_run_164 : decode cX4_run 164 = .ok (.aload_n 0, 1) := by decide +kernel
theorem dX4_run_165 : decode cX4_run 165 = .ok (.invokevirtual 98, 3) := by decide +kernel
theorem dX4_run_168 : decode cX4_run 168 = .ok (.istore 7, 2) := by decide +kernel
theorem dX4_run_170 : decode cX4_run 170 = .ok (.aload_n 0, 1) := by decide +kernel
theorem dX4_run_171 : decode cX4_run 171 = .ok (.aload_n 0, 1) := by decide +kernel
theorem dX4_run_172 : decode cX4_run 172 = .ok (.iload 5, 2) := by decide +kernel
theorem dX4_run_174 : decode cX4_run 174 = .ok (.iconst 5, 1) := by decide +kernel
theorem dX4_run_175 : decode cX4_run 175 = .ok (.isub, 1) := by decide +kernel
theorem dX4_run_176 : decode cX4_run 176 = .ok (.aload_n 0, 1) := by decide +kernel
theorem dX4_run_177 : decode cX4_run 177 = .ok (.invokevirtual 98, 3) := by decide +kernel
theorem dX4_run_180 : decode cX4_run 180 = .ok (.iload 7, 2) := by decide +kernel
theorem dX4_run_182 : decode cX4_run 182 = .ok (.invokevirtual 102, 3) := by decide +kernel
theorem dX4_run_185 : decode cX4_run 185 = .ok (.invokevirtual 94, 3) := by decide +kernel
theorem dX4_run_188 : decode cX4_run 188 = .ok (.iinc 4 1, 3) := by decide +kernel
theorem dX4_run_191 : decode cX4_run 191 = .ok (.goto (-176), 3) := by decide +kernel
theorem dX4_run_194 : decode cX4_run 194 = .ok (.aload_n 0, 1) := by decide +kernel
theorem dX4_run_195 : decode cX4_run 195 = .ok (.getfield 22, 3) := by decide +kernel
theorem dX4_run_198 : decode cX4_run 198 = .ok (.ifCond .eq 7, 3) := by decide +kernel
theorem dX4_run_201 : decode cX4_run 201 = .ok (.iconst 0, 1) := by decide +kernel
theorem dX4_run_202 : decode cX4_run 202 = .ok (.goto 7, 3) := by decide +kernel
theorem dX4_run_205 : decode cX4_run 205 = .ok (.aload_n 0, 1) := by decide +kernel
theorem dX4_run_206 : decode cX4_run 206 = .ok (.invokevirtual 98, 3) := by decide +kernel
theorem dX4_run_209 : decode cX4_run 209 = .ok (.ireturn, 1) := by decide +kernel
theorem dX5_init_0 : decode cX5_init 0 = .ok (.aload_n 0, 1) := by decide +kernel
theorem dX5_init_1 : decode cX5_init 1 = .ok (.invokespecial 3, 3) := by decide +kernel
theorem dX5_init_4 : decode cX5_init 4 = .ok (.aload_n 0, 1) := by decide +kernel
theorem dX5_init_5 : decode cX5_init 5 = .ok (.new 9, 3) := by decide +kernel
theorem dX5_init_8 : decode cX5_init 8 = .ok (.dup, 1) := by decide +kernel
theorem dX5_init_9 : decode cX5_init 9 = .ok (.invokespecial 11, 3) := by decide +kernel
theorem dX5_init_12 : decode cX5_init 12 = .ok (.putfield 12, 3) := by decide +kernel
theorem dX5_init_15 : decode cX5_init 15 = .ok (.aload_n 0, 1) := by decide +kernel
theorem dX5_init_16 : decode cX5_init 16 = .ok (.iconst 0, 1) := by decide +kernel
theorem dX5_init_17 : decode cX5_init 17 = .ok (.putfield 18, 3) := by decide +kernel
theorem dX5_init_20 : decode cX5_init 20 = .ok (.aload_n 0, 1) := by decide +kernel
theorem dX5_init_21 : decode cX5_init 21 = .ok (.aload_n 1, 1) := by decide +kernel
theorem dX5_init_22 : decode cX5_init 22 = .ok (.putfield 22, 3) := by decide +kernel
theorem dX5_init_25 : decode cX5_init 25 = .ok (.return_, 1) := by decide +kernel
theorem dX5_mayOpen_0 : decode cX5_mayOpen 0 = .ok (.iload_n 1, 1) := by decide +kernel
theorem dX5_mayOpen_1 : decode cX5_mayOpen 1 = .ok (.bipush 6, 2) := by decide +kernel
theorem dX5_mayOpen_3 : decode cX5_mayOpen 3 = .ok (.if_icmp .lt 18, 3) := by decide +kernel
theorem dX5_mayOpen_6 : decode cX5_mayOpen 6 = .ok (.aload_n 0, 1) := by decide +kernel
theorem dX5_mayOpen_7 : decode cX5_mayOpen 7 = .ok (.getfield 22, 3) := by decide +kernel
theorem dX5_mayOpen_10 : decode cX5_mayOpen 10 = .ok (.iconst 5, 1) := by decide +kernel
theorem dX5_mayOpen_11 : decode cX5_mayOpen 11 = .ok (.aload_n 0, 1) := by decide +kernel
theorem dX5_mayOpen_12 : decode cX5_mayOpen 12 = .ok (.getfield 22, 3) := by decide +kernel
theorem dX5_mayOpen_15 : decode cX5_mayOpen 15 = .ok (.getfield 76, 3) := by decide +kernel
theorem dX5_mayOpen_18 : decode cX5_mayOpen 18 = .ok (.invokevirtual 79, 3) := by decide +kernel
theorem dX5_mayOpen_21 : decode cX5_mayOpen 21 = .ok (.aload_n 0, 1) := by decide +kernel
theorem dX5_mayOpen_22 : decode cX5_mayOpen 22 = .ok (.getfield 22, 3) := by decide +kernel
theorem dX5_mayOpen_25 : decode cX5_mayOpen 25 = .ok (.invokevirtual 86, 3) := by decide +kernel
theorem dX5_mayOpen_28 : decode cX5_mayOpen 28 = .ok (.aload_n 0, 1) := by decide +kernel
theorem dX5_mayOpen_29 : decode cX5_mayOpen 29 = .ok (.getfield 22, 3) := by decide +kernel
theorem dX5_mayOpen_32 : decode cX5_mayOpen 32 = .ok (.invokevirtual 51, 3) := by decide +kernel
theorem dX5_mayOpen_35 : decode cX5_mayOpen 35 = .ok (.ireturn, 1) := by decide +kernel
theorem dX5_number_0 : decode cX5_number 0 = .ok (.iconst 0, 1) := by decide +kernel
theorem dX5_number_1 : decode cX5_number 1 = .ok (.istore_n 1, 1) := by decide +kernel
theorem dX5_number_2 : decode cX5_number 2 = .ok (.iconst 0, 1) := by decide +kernel
theorem dX5_number_3 : decode cX5_number 3 = .ok (.istore_n 2, 1) := by decide +kernel
theorem dX5_number_4 : decode cX5_number 4 = .ok (.iload_n 2, 1) := by decide +kernel
theorem dX5_number_5 : decode cX5_number 5 = .ok (.iconst 5, 1) := by decide +kernel
theorem dX5_number_6 : decode cX5_number 6 = .ok (.if_icmp .ge 42, 3) := by decide +kernel
theorem dX5_number_9 : decode cX5_number 9 = .ok (.aload_n 0, 1) := by decide +kernel
theorem dX5_number_10 : decode cX5_number 10 = .ok (.getfield 22, 3) := by decide +kernel
theorem dX5_number_13 : decode cX5_number 13 = .ok (.invokevirtual 117, 3) := by decide +kernel
theorem dX5_number_16 : decode cX5_number 16 = .ok (.ifCond .eq 32, 3) := by decide +kernel
theorem dX5_number_19 : decode cX5_number 19 = .ok (.bipush 10, 2) := by decide +kernel
theorem dX5_number_21 : decode cX5_number 21 = .ok (.iload_n 1, 1) := by decide +kernel
theorem dX5_number_22 : decode cX5_number 22 = .ok (.imul, 1) := by decide +kernel
theorem dX5_number_23 : decode cX5_number 23 = .ok (.aload_n 0, 1) := by decide +kernel
theorem dX5_number_24 : decode cX5_number 24 = .ok (.getfield 22, 3) := by decide +kernel
theorem dX5_number_27 : decode cX5_number 27 = .ok (.getfield 83, 3) := by decide +kernel
theorem dX5_number_30 : decode cX5_number 30 = .ok (.iadd, 1) := by decide +kernel
theorem dX5_number_31 : decode cX5_number 31 = .ok (.bipush 48, 2) := by decide +kernel
theorem dX5_number_33 : decode cX5_number 33 = .ok (.isub, 1) := by decide +kernel
theorem dX5_number_34 : decode cX5_number 34 = .ok (.istore_n 1, 1) := by decide +kernel
theorem dX5_number_35 : decode cX5_number 35 = .ok (.aload_n 0, 1) := by decide +kernel
theorem dX5_number_36 : decode cX5_number 36 = .ok (.getfield 22, 3) := by decide +kernel
theorem dX5_number_39 : decode cX5_number 39 = .ok (.invokevirtual 86, 3) := by decide +kernel
theorem dX5_number_42 : decode cX5_number 42 = .ok (.iinc 2 1, 3) := by decide +kernel
theorem dX5_number_45 : decode cX5_number 45 = .ok (.goto (-41), 3) := by decide +kernel
theorem dX5_number_48 : decode cX5_number 48 = .ok (.aload_n 0, 1) := by decide +kernel
theorem dX5_number_49 : decode cX5_number 49 = .ok (.getfield 22, 3) := by decide +kernel
theorem dX5_number_52 : decode cX5_number 52 = .ok (.invokevirtual 117, 3) := by decide +kernel
theorem dX5_number_55 : decode cX5_number 55 = .ok (.ifCond .eq 18, 3) := by decide +kernel
theorem dX5_number_58 : decode cX5_number 58 = .ok (.aload_n 0, 1) := by decide +kernel
theorem dX5_number_59 : decode cX5_number 59 = .ok (.getfield 22, 3) := by decide +kernel
theorem dX5_number_62 : decode cX5_number 62 = .ok (.iconst 2, 1) := by decide +kernel
theorem dX5_number_63 : decode cX5_number 63 = .ok (.aload_n 0, 1) := by decide +kernel
theorem dX5_number_64 : decode cX5_number 64 = .ok (.getfield 22, 3) := by decide +kernel
theorem dX5_number_67 : decode cX5_number 67 = .ok (.getfield 76, 3) := by decide +kernel
theorem dX5_number_70 : decode cX5_number 70 = .ok (.invokevirtual 79, 3) := by decide +kernel
theorem dX5_number_73 : decode cX5_number 73 = .ok (.iload_n 1, 1) := by decide +kernel
theorem dX5_number_74 : decode cX5_number 74 = .ok (.ireturn, 1) := by decide +kernel
theorem dX5_readChoice_0 : decode cX5_readChoice 0 = .ok (.iconst (-1), 1) := by decide +kernel
theorem dX5_readChoice_1 : decode cX5_readChoice 1 = .ok (.istore_n 2, 1) := by decide +kernel
theorem dX5_readChoice_2 : decode cX5_readChoice 2 = .ok (.iconst 0, 1) := by decide +kernel
theorem dX5_readChoice_3 : decode cX5_readChoice 3 = .ok (.istore_n 3, 1) := by decide +kernel
theorem dX5_readChoice_4 : decode cX5_readChoice 4 = .ok (.iload_n 3, 1) := by decide +kernel
theorem dX5_readChoice_5 : decode cX5_readChoice 5 = .ok (.sipush 200, 3) := by decide +kernel
theorem dX5_readChoice_8 : decode cX5_readChoice 8 = .ok (.if_icmp .ge 151, 3) := by decide +kernel
theorem dX5_readChoice_11 : decode cX5_readChoice 11 = .ok (.aload_n 0, 1) := by decide +kernel
theorem dX5_readChoice_12 : decode cX5_readChoice 12 = .ok (.getfield 22, 3) := by decide +kernel
theorem dX5_readChoice_15 : decode cX5_readChoice 15 = .ok (.invokevirtual 51, 3) := by decide +kernel
theorem dX5_readChoice_18 : decode cX5_readChoice 18 = .ok (.ifCond .eq 141, 3) := by decide +kernel
theorem dX5_readChoice_21 : decode cX5_readChoice 21 = .ok (.iconst (-1), 1) := by decide +kernel
theorem dX5_readChoice_22 : decode cX5_readChoice 22 = .ok (.istore 4, 2) := by decide +kernel
theorem dX5_readChoice_24 : decode cX5_readChoice 24 = .ok (.iconst 1, 1) := by decide +kernel
theorem dX5_readChoice_25 : decode cX5_readChoice 25 = .ok (.istore 5, 2) := by decide +kernel
theorem dX5_readChoice_27 : decode cX5_readChoice 27 = .ok (.iconst 0, 1) := by decide +kernel
theorem dX5_readChoice_28 : decode cX5_readChoice 28 = .ok (.istore 6, 2) := by decide +kernel
theorem dX5_readChoice_30 : decode cX5_readChoice 30 = .ok (.iload 6, 2) := by decide +kernel
theorem dX5_readChoice_32 : decode cX5_readChoice 32 = .ok (.sipush 200, 3) := by decide +kernel
theorem dX5_readChoice_35 : decode cX5_readChoice 35 = .ok (.if_icmp .ge 80, 3) := by decide +kernel
theorem dX5_readChoice_38 : decode cX5_readChoice 38 = .ok (.iload 5, 2) := by decide +kernel
theorem dX5_readChoice_40 : decode cX5_readChoice 40 = .ok (.ifCond .eq 75, 3) := by decide +kernel
theorem dX5_readChoice_43 : decode cX5_readChoice 43 = .ok (.aload_n 0, 1) := by decide +kernel
theorem dX5_readChoice_44 : decode cX5_readChoice 44 = .ok (.getfield 22, 3) := by decide +kernel
theorem dX5_readChoice_47 : decode cX5_readChoice 47 = .ok (.invokevirtual 51, 3) := by decide +kernel
theorem dX5_readChoice_50 : decode cX5_readChoice 50 = .ok (.ifCond .eq 65, 3) := by decide +kernel
theorem dX5_readChoice_53 : decode cX5_readChoice 53 = .ok (.aload_n 0, 1) := by decide +kernel
theorem dX5_readChoice_54 : decode cX5_readChoice 54 = .ok (.iload_n 1, 1) := by decide +kernel
theorem dX5_readChoice_55 : decode cX5_readChoice 55 = .ok (.invokevirtual 92, 3) := by decide +kernel
theorem dX5_readChoice_58 : decode cX5_readChoice 58 = .ok (.aload_n 0, 1) := by decide +kernel
theorem dX5_readChoice_59 : decode cX5_readChoice 59 = .ok (.getfield 12, 3) := by decide +kernel
theorem dX5_readChoice_62 : decode cX5_readChoice 62 = .ok (.iload 4, 2) := by decide +kernel
theorem dX5_readChoice_64 : decode cX5_readChoice 64 = .ok (.invokevirtual 95, 3) := by decide +kernel
theorem dX5_readChoice_67 : decode cX5_readChoice 67 = .ok (.aload_n 0, 1) := by decide +kernel
theorem dX5_readChoice_68 : decode cX5_readChoice 68 = .ok (.getfield 22, 3) := by decide +kernel
theorem dX5_readChoice_71 : decode cX5_readChoice 71 = .ok (.getfield 83, 3) := by decide +kernel
theorem dX5_readChoice_74 : decode cX5_readChoice 74 = .ok (.bipush 38, 2) := by decide +kernel
theorem dX5_readChoice_76 : decode cX5_readChoice 76 = .ok (.if_icmp .ne 7, 3) := by decide +kernel
theorem dX5_readChoice_79 : decode cX5_readChoice 79 = .ok (.iconst 1, 1) := by decide +kernel
theorem dX5_readChoice_80 : decode cX5_readChoice 80 = .ok (.goto 4, 3) := by decide +kernel
theorem dX5_readChoice_83 : decode cX5_readChoice 83 = .ok (.iconst 0, 1) := by decide +kernel
theorem dX5_readChoice_84 : decode cX5_readChoice 84 = .ok (.istore 5, 2) := by decide +kernel
theorem dX5_readChoice_86 : decode cX5_readChoice 86 = .ok (.iload 5, 2) := by decide +kernel
theorem dX5_readChoice_88 : decode cX5_readChoice 88 = .ok (.ifCond .eq 21, 3) := by decide +kernel
theorem dX5_readChoice_91 : decode cX5_readChoice 91 = .ok (.aload_n 0, 1) := by decide +kernel
theorem dX5_readChoice_92 : decode cX5_readChoice 92 = .ok (.getfield 12, 3) := by decide +kernel
theorem dX5_readChoice_95 : decode cX5_readChoice 95 = .ok (.iconst 3, 1) := by decide +kernel
theorem dX5_readChoice_96 : decode cX5_readChoice 96 = .ok (.iconst 0, 1) := by decide +kernel
theorem dX5_readChoice_97 : decode cX5_readChoice 97 = .ok (.invokevirtual 98, 3) := by decide +kernel
theorem dX5_readChoice_100 : decode cX5_readChoice 100 = .ok (.istore 4, 2) := by decide +kernel
theorem dX5_readChoice_102 : decode cX5_readChoice 102 = .ok (.aload_n 0, 1) := by decide +kernel
theorem dX5_readChoice_103 : decode cX5_readChoice 103 = .ok (.getfield 22, 3) := by decide +kernel
theorem dX5_readChoice_106 : decode cX5_readChoice 106 = .ok (.invokevirtual 86, 3) := by decide +kernel
theorem dX5_readChoice_109 : decode cX5_readChoice 109 = .ok (.iinc 6 1, 3) := by decide +kernel
theorem dX5_readChoice_112 : decode cX5_readChoice 112 = .ok (.goto (-82), 3) := by decide +kernel
theorem dX5_readChoice_115 : decode cX5_readChoice 115 = .ok (.aload_n 0, 1) := by decide +kernel
theorem dX5_readChoice_116 : decode cX5_readChoice 116 = .ok (.getfield 12, 3) := by decide +kernel
theorem dX5_readChoice_119 : decode cX5_readChoice 119 = .ok (.iload_n 2, 1) := by decide +kernel
theorem dX5_readChoice_120 : decode cX5_readChoice 120 = .ok (.invokevirtual 95, 3) := by decide +kernel
theorem dX5_readChoice_123 : decode cX5_readChoice 123 = .ok (.aload_n 0, 1) := by decide +kernel
theorem dX5_readChoice_124 : decode cX5_readChoice 124 = .ok (.getfield 22, 3) := by decide +kernel
theorem dX5_readChoice_127 : decode cX5_readChoice 127 = .ok (.getfield 83, 3) := by decide +kernel
theorem dX5_readChoice_130 : decode cX5_readChoice 130 = .ok (.bipush 124, 2) := by decide +kernel
theorem dX5_readChoice_132 : decode cX5_readChoice 132 = .ok (.if_icmp .eq 4, 3) := by decide +kernel
theorem dX5_readChoice_135 : decode cX5_readChoice 135 = .ok (.return_, 1) := by decide +kernel
theorem dX5_readChoice_136 : decode cX5_readChoice 136 = .ok (.aload_n 0, 1) := by decide +kernel
theorem dX5_readChoice_137 : decode cX5_readChoice 137 = .ok (.getfield 12, 3) := by decide +kernel
theorem dX5_readChoice_140 : decode cX5_readChoice 140 = .ok (.iconst 4, 1) := by decide +kernel
theorem dX5_readChoice_141 : decode cX5_readChoice 141 = .ok (.iconst 0, 1) := by decide +kernel
theorem dX5_readChoice_142 : decode cX5_readChoice 142 = .ok (.invokevirtual 98, 3) := by decide +kernel
theorem dX5_readChoice_145 : decode cX5_readChoice 145 = .ok (.istore_n 2, 1) := by decide +kernel
theorem dX5_readChoice_146 : decode cX5_readChoice 146 = .ok (.aload_n 0, 1) := by decide +kernel
theorem dX5_readChoice_147 : decode cX5_readChoice 147 = .ok (.getfield 22, 3) := by decide +kernel
theorem dX5_readChoice_150 : decode cX5_readChoice 150 = .ok (.invokevirtual 86, 3) := by decide +kernel
theorem dX5_readChoice_153 : decode cX5_readChoice 153 = .ok (.iinc 3 1, 3) := by decide +kernel
theorem dX5_readChoice_156 : decode cX5_readChoice 156 = .ok (.goto (-152), 3) := by decide +kernel
theorem dX5_readChoice_159 : decode cX5_readChoice 159 = .ok (.return_, 1) := by decide +kernel
theorem dX5_readFactor_0 : decode cX5_readFactor 0 = .ok (.aload_n 0, 1) := by decide +kernel
theorem dX5_readFactor_1 : decode cX5_readFactor 1 = .ok (.getfield 22, 3) := by decide +kernel
theorem dX5_readFactor_4 : decode cX5_readFactor 4 = .ok (.getfield 83, 3) := by decide +kernel
theorem dX5_readFactor_7 : decode cX5_readFactor 7 = .ok (.bipush 91, 2) := by decide +kernel
theorem dX5_readFactor_9 : decode cX5_readFactor 9 = .ok (.if_icmp .ne 30, 3) := by decide +kernel
theorem dX5_readFactor_12 : decode cX5_readFactor 12 = .ok (.aload_n 0, 1) := by decide +kernel
theorem dX5_readFactor_13 : decode cX5_readFactor 13 = .ok (.iload_n 1, 1) := by decide +kernel
theorem dX5_readFactor_14 : decode cX5_readFactor 14 = .ok (.invokevirtual 102, 3) := by decide +kernel
theorem dX5_readFactor_17 : decode cX5_readFactor 17 = .ok (.ifCond .eq 10, 3) := by decide +kernel
theorem dX5_readFactor_20 : decode cX5_readFactor 20 = .ok (.aload_n 0, 1) := by decide +kernel
theorem dX5_readFactor_21 : decode cX5_readFactor 21 = .ok (.iload_n 1, 1) := by decide +kernel
theorem dX5_readFactor_22 : decode cX5_readFactor 22 = .ok (.iconst 1, 1) := by decide +kernel
theorem dX5_readFactor_23 : decode cX5_readFactor 23 = .ok (.iadd, 1) := by decide +kernel
theorem dX5_readFactor_24 : decode cX5_readFactor 24 = .ok (.invokevirtual 38, 3) := by decide +kernel
theorem dX5_readFactor_27 : decode cX5_readFactor 27 = .ok (.aload_n 0, 1) := by decide +kernel
theorem dX5_readFactor_28 : decode cX5_readFactor 28 = .ok (.getfield 22, 3) := by decide +kernel
theorem dX5_readFactor_31 : decode cX5_readFactor 31 = .ok (.bipush 93, 2) := by decide +kernel
theorem dX5_readFactor_33 : decode cX5_readFactor 33 = .ok (.invokevirtual 44, 3) := by decide +kernel
theorem dX5_readFactor_36 : decode cX5_readFactor 36 = .ok (.goto 119, 3) := by decide +kernel
theorem dX5_readFactor_39 : decode cX5_readFactor 39 = .ok (.aload_n 0, 1) := by decide +kernel
theorem dX5_readFactor_40 : decode cX5_readFactor 40 = .ok (.getfield 22, 3) := by decide +kernel
theorem dX5_readFactor_43 : decode cX5_readFactor 43 = .ok (.invokevirtual 117, 3) := by decide +kernel
theorem dX5_readFactor_46 : decode cX5_readFactor 46 = .ok (.ifCond .eq 19, 3) := by decide +kernel
theorem dX5_readFactor_49 : decode cX5_readFactor 49 = .ok (.aload_n 0, 1) := by decide +kernel
theorem dX5_readFactor_50 : decode cX5_readFactor 50 = .ok (.getfield 12, 3) := by decide +kernel
theorem dX5_readFactor_53 : decode cX5_readFactor 53 = .ok (.iconst 0, 1) := by decide +kernel
theorem dX5_readFactor_54 : decode cX5_readFactor 54 = .ok (.aload_n 0, 1) := by decide +kernel
theorem dX5_readFactor_55 : decode cX5_readFactor 55 = .ok (.invokevirtual 120, 3) := by decide +kernel
theorem dX5_readFactor_58 : decode cX5_readFactor 58 = .ok (.invokevirtual 98, 3) := by decide +kernel
theorem dX5_readFactor_61 : decode cX5_readFactor 61 = .ok (.pop, 1) := by decide +kernel
theorem dX5_readFactor_62 : decode cX5_readFactor 62 = .ok (.goto 93, 3) := by decide +kernel
theorem dX5_readFactor_65 : decode cX5_readFactor 65 = .ok (.aload_n 0, 1) := by decide +kernel
theorem dX5_readFactor_66 : decode cX5_readFactor 66 = .ok (.getfield 22, 3) := by decide +kernel
theorem dX5_readFactor_69 : decode cX5_readFactor 69 = .ok (.ldc 124, 2) := by decide +kernel
theorem dX5_readFactor_71 : decode cX5_readFactor 71 = .ok (.invokevirtual 69, 3) := by decide +kernel
theorem dX5_readFactor_74 : decode cX5_readFactor 74 = .ok (.ifCond .lt 74, 3) := by decide +kernel
theorem dX5_readFactor_77 : decode cX5_readFactor 77 = .ok (.aload_n 0, 1) := by decide +kernel
theorem dX5_readFactor_78 : decode cX5_readFactor 78 = .ok (.getfield 12, 3) := by decide +kernel
theorem dX5_readFactor_81 : decode cX5_readFactor 81 = .ok (.aload_n 0, 1) := by decide +kernel
theorem dX5_readFactor_82 : decode cX5_readFactor 82 = .ok (.getfield 12, 3) := by decide +kernel
theorem dX5_readFactor_85 : decode cX5_readFactor 85 = .ok (.getfield 126, 3) := by decide +kernel
theorem dX5_readFactor_88 : decode cX5_readFactor 88 = .ok (.ifCond .ne 24, 3) := by decide +kernel
theorem dX5_readFactor_91 : decode cX5_readFactor 91 = .ok (.aload_n 0, 1) := by decide +kernel
theorem dX5_readFactor_92 : decode cX5_readFactor 92 = .ok (.getfield 18, 3) := by decide +kernel
theorem dX5_readFactor_95 : decode cX5_readFactor 95 = .ok (.bipush 114, 2) := by decide +kernel
theorem dX5_readFactor_97 : decode cX5_readFactor 97 = .ok (.if_icmp .ne 19, 3) := by decide +kernel
theorem dX5_readFactor_100 : decode cX5_readFactor 100 = .ok (.aload_n 0, 1) := by decide +kernel
theorem dX5_readFactor_101 : decode cX5_readFactor 101 = .ok (.getfield 22, 3) := by decide +kernel
theorem dX5_readFactor_104 : decode cX5_readFactor 104 = .ok (.getfield 83, 3) := by decide +kernel
theorem dX5_readFactor_107 : decode cX5_readFactor 107 = .ok (.bipush 118, 2) := by decide +kernel
theorem dX5_readFactor_109 : decode cX5_readFactor 109 = .ok (.if_icmp .ne 7, 3) := by decide +kernel
theorem dX5_readFactor_112 : decode cX5_readFactor 112 = .ok (.iconst 1, 1) := by decide +kernel
theorem dX5_readFactor_113 : decode cX5_readFactor 113 = .ok (.goto 4, 3) := by decide +kernel
theorem dX5_readFactor_116 : decode cX5_readFactor 116 = .ok (.iconst 0, 1) := by decide +kernel
theorem dX5_readFactor_117 : decode cX5_readFactor 117 = .ok (.putfield 126, 3) := by decide +kernel
theorem dX5_readFactor_120 : decode cX5_readFactor 120 = .ok (.aload_n 0, 1) := by decide +kernel
theorem dX5_readFactor_121 : decode cX5_readFactor 121 = .ok (.getfield 12, 3) := by decide +kernel
theorem dX5_readFactor_124 : decode cX5_readFactor 124 = .ok (.iconst 1, 1) := by decide +kernel
theorem dX5_readFactor_125 : decode cX5_readFactor 125 = .ok (.aload_n 0, 1) := by decide +kernel
theorem dX5_readFactor_126 : decode cX5_readFactor 126 = .ok (.getfield 22, 3) := by decide +kernel
theorem dX5_readFactor_129 : decode cX5_readFactor 129 = .ok (.ldc 124, 2) := by decide +kernel
theorem dX5_readFactor_131 : decode cX5_readFactor 131 = .ok (.invokevirtual 69, 3) := by decide +kernel
theorem dX5_readFactor_134 : decode cX5_readFactor 134 = .ok (.invokevirtual 98, 3) := by decide +kernel
theorem dX5_readFactor_137 : decode cX5_readFactor 137 = .ok (.pop, 1) := by decide +kernel
theorem dX5_readFactor_138 : decode cX5_readFactor 138 = .ok (.aload_n 0, 1) := by decide +kernel
theorem dX5_readFactor_139 : decode cX5_readFactor 139 = .ok (.getfield 22, 3) := by decide +kernel
theorem dX5_readFactor_142 : decode cX5_readFactor 142 = .ok (.invokevirtual 86, 3) := by decide +kernel
theorem dX5_readFactor_145 : decode cX5_readFactor 145 = .ok (.goto 10, 3) := by decide +kernel
theorem dX5_readFactor_148 : decode cX5_readFactor 148 = .ok (.aload_n 0, 1) := by decide +kernel
theorem dX5_readFactor_149 : decode cX5_readFactor 149 = .ok (.getfield 22, 3) := by decide +kernel
theorem dX5_readFactor_152 : decode cX5_readFactor 152 = .ok (.invokevirtual 73, 3) := by decide +kernel
theorem dX5_readFactor_155 : decode cX5_readFactor 155 = .ok (.return_, 1) := by decide +kernel
theorem dX5_readLaw_0 : decode cX5_readLaw 0 = .ok (.aload_n 0, 1) := by decide +kernel
theorem dX5_readLaw_1 : decode cX5_readLaw 1 = .ok (.getfield 22, 3) := by decide +kernel
theorem dX5_readLaw_4 : decode cX5_readLaw 4 = .ok (.iload_n 1, 1) := by decide +kernel
theorem dX5_readLaw_5 : decode cX5_readLaw 5 = .ok (.invokevirtual 26, 3) := by decide +kernel
theorem dX5_readLaw_8 : decode cX5_readLaw 8 = .ok (.aload_n 0, 1) := by decide +kernel
theorem dX5_readLaw_9 : decode cX5_readLaw 9 = .ok (.getfield 12, 3) := by decide +kernel
theorem dX5_readLaw_12 : decode cX5_readLaw 12 = .ok (.invokevirtual 32, 3) := by decide +kernel
theorem dX5_readLaw_15 : decode cX5_readLaw 15 = .ok (.iconst 0, 1) := by decide +kernel
theorem dX5_readLaw_16 : decode cX5_readLaw 16 = .ok (.istore_n 2, 1) := by decide +kernel
theorem dX5_readLaw_17 : decode cX5_readLaw 17 = .ok (.iload_n 2, 1) := by decide +kernel
theorem dX5_readLaw_18 : decode cX5_readLaw 18 = .ok (.bipush 14, 2) := by decide +kernel
theorem dX5_readLaw_20 : decode cX5_readLaw 20 = .ok (.if_icmp .gt 131, 3) := by decide +kernel
theorem dX5_readLaw_23 : decode cX5_readLaw 23 = .ok (.aload_n 0, 1) := by decide +kernel
theorem dX5_readLaw_24 : decode cX5_readLaw 24 = .ok (.iload_n 2, 1) := by decide +kernel
theorem dX5_readLaw_25 : decode cX5_readLaw 25 = .ok (.invokevirtual 35, 3) := by decide +kernel
theorem dX5_readLaw_28 : decode cX5_readLaw 28 = .ok (.aload_n 0, 1) := by decide +kernel
theorem dX5_readLaw_29 : decode cX5_readLaw 29 = .ok (.getfield 18, 3) := by decide +kernel
theorem dX5_readLaw_32 : decode cX5_readLaw 32 = .ok (.bipush 114, 2) := by decide +kernel
theorem dX5_readLaw_34 : decode cX5_readLaw 34 = .ok (.if_icmp .eq 8, 3) := by decide +kernel
theorem dX5_readLaw_37 : decode cX5_readLaw 37 = .ok (.aload_n 0, 1) := by decide +kernel
theorem dX5_readLaw_38 : decode cX5_readLaw 38 = .ok (.iconst 0, 1) := by decide +kernel
theorem dX5_readLaw_39 : decode cX5_readLaw 39 = .ok (.invokevirtual 38, 3) := by decide +kernel
theorem dX5_readLaw_42 : decode cX5_readLaw 42 = .ok (.aload_n 0, 1) := by decide +kernel
theorem dX5_readLaw_43 : decode cX5_readLaw 43 = .ok (.getfield 12, 3) := by decide +kernel
theorem dX5_readLaw_46 : decode cX5_readLaw 46 = .ok (.invokevirtual 41, 3) := by decide +kernel
theorem dX5_readLaw_49 : decode cX5_readLaw 49 = .ok (.aload_n 0, 1) := by decide +kernel
theorem dX5_readLaw_50 : decode cX5_readLaw 50 = .ok (.getfield 22, 3) := by decide +kernel
theorem dX5_readLaw_53 : decode cX5_readLaw 53 = .ok (.bipush 40, 2) := by decide +kernel
theorem dX5_readLaw_55 : decode cX5_readLaw 55 = .ok (.invokevirtual 44, 3) := by decide +kernel
theorem dX5_readLaw_58 : decode cX5_readLaw 58 = .ok (.aload_n 0, 1) := by decide +kernel
theorem dX5_readLaw_59 : decode cX5_readLaw 59 = .ok (.iconst 1, 1) := by decide +kernel
theorem dX5_readLaw_60 : decode cX5_readLaw 60 = .ok (.invokevirtual 48, 3) := by decide +kernel
theorem dX5_readLaw_63 : decode cX5_readLaw 63 = .ok (.aload_n 0, 1) := by decide +kernel
theorem dX5_readLaw_64 : decode cX5_readLaw 64 = .ok (.getfield 22, 3) := by decide +kernel
theorem dX5_readLaw_67 : decode cX5_readLaw 67 = .ok (.bipush 41, 2) := by decide +kernel
theorem dX5_readLaw_69 : decode cX5_readLaw 69 = .ok (.invokevirtual 44, 3) := by decide +kernel
theorem dX5_readLaw_72 : decode cX5_readLaw 72 = .ok (.aload_n 0, 1) := by decide +kernel
theorem dX5_readLaw_73 : decode cX5_readLaw 73 = .ok (.getfield 22, 3) := by decide +kernel
theorem dX5_readLaw_76 : decode cX5_readLaw 76 = .ok (.invokevirtual 51, 3) := by decide +kernel
theorem dX5_readLaw_79 : decode cX5_readLaw 79 = .ok (.ifCond .eq 10, 3) := by decide +kernel
theorem dX5_readLaw_82 : decode cX5_readLaw 82 = .ok (.aload_n 0, 1) := by decide +kernel
theorem dX5_readLaw_83 : decode cX5_readLaw 83 = .ok (.getfield 12, 3) := by decide +kernel
theorem dX5_readLaw_86 : decode cX5_readLaw 86 = .ok (.invokevirtual 55, 3) := by decide +kernel
theorem dX5_readLaw_89 : decode cX5_readLaw 89 = .ok (.aload_n 0, 1) := by decide +kernel
theorem dX5_readLaw_90 : decode cX5_readLaw 90 = .ok (.getfield 22, 3) := by decide +kernel
theorem dX5_readLaw_93 : decode cX5_readLaw 93 = .ok (.invokevirtual 51, 3) := by decide +kernel
theorem dX5_readLaw_96 : decode cX5_readLaw 96 = .ok (.ifCond .eq 21, 3) := by decide +kernel
theorem dX5_readLaw_99 : decode cX5_readLaw 99 = .ok (.aload_n 0, 1) := by decide +kernel
theorem dX5_readLaw_100 : decode cX5_readLaw 100 = .ok (.getfield 22, 3) := by decide +kernel
theorem dX5_readLaw_103 : decode cX5_readLaw 103 = .ok (.invokevirtual 58, 3) := by decide +kernel
theorem dX5_readLaw_106 : decode cX5_readLaw 106 = .ok (.ifCond .eq 11, 3) := by decide +kernel
theorem dX5_readLaw_109 : decode cX5_readLaw 109 = .ok (.aload_n 0, 1) := by decide +kernel
theorem dX5_readLaw_110 : decode cX5_readLaw 110 = .ok (.getfield 12, 3) := by decide +kernel
theorem dX5_readLaw_113 : decode cX5_readLaw 113 = .ok (.getfield 61, 3) := by decide +kernel
theorem dX5_readLaw_116 : decode cX5_readLaw 116 = .ok (.ireturn, 1) := by decide +kernel
theorem dX5_readLaw_117 : decode cX5_readLaw 117 = .ok (.aload_n 0, 1) := by decide +kernel
theorem dX5_readLaw_118 : decode cX5_readLaw 118 = .ok (.getfield 22, 3) := by decide +kernel
theorem dX5_readLaw_121 : decode cX5_readLaw 121 = .ok (.bipush 59, 2) := by decide +kernel
theorem dX5_readLaw_123 : decode cX5_readLaw 123 = .ok (.invokevirtual 44, 3) := by decide +kernel
theorem dX5_readLaw_126 : decode cX5_readLaw 126 = .ok (.aload_n 0, 1) := by decide +kernel
theorem dX5_readLaw_127 : decode cX5_readLaw 127 = .ok (.getfield 22, 3) := by decide +kernel
theorem dX5_readLaw_130 : decode cX5_readLaw 130 = .ok (.invokevirtual 51, 3) := by decide +kernel
theorem dX5_readLaw_133 : decode cX5_readLaw 133 = .ok (.ifCond .ne 12, 3) := by decide +kernel
theorem dX5_readLaw_136 : decode cX5_readLaw 136 = .ok (.aload_n 0, 1) := by decide +kernel
theorem dX5_readLaw_137 : decode cX5_readLaw 137 = .ok (.getfield 22, 3) := by decide +kernel
theorem dX5_readLaw_140 : decode cX5_readLaw 140 = .ok (.getfield 64, 3) := by decide +kernel
theorem dX5_readLaw_143 : decode cX5_readLaw 143 = .ok (.ineg, 1) := by decide +kernel
theorem dX5_readLaw_144 : decode cX5_readLaw 144 = .ok (.ireturn, 1) := by decide +kernel
theorem dX5_readLaw_145 : decode cX5_readLaw 145 = .ok (.iinc 2 1, 3) := by decide +kernel
theorem dX5_readLaw_148 : decode cX5_readLaw 148 = .ok (.goto (-131), 3) := by decide +kernel
theorem dX5_readLaw_151 : decode cX5_readLaw 151 = .ok (.aload_n 0, 1) := by decide +kernel
theorem dX5_readLaw_152 : decode cX5_readLaw 152 = .ok (.getfield 22, 3) := by decide +kernel
theorem dX5_readLaw_155 : decode cX5_readLaw 155 = .ok (.getfield 64, 3) := by decide +kernel
theorem dX5_readLaw_158 : decode cX5_readLaw 158 = .ok (.ineg, 1) := by decide +kernel
theorem dX5_readLaw_159 : decode cX5_readLaw 159 = .ok (.ireturn, 1) := by decide +kernel
theorem dX5_readLetter_0 : decode cX5_readLetter 0 = .ok (.aload_n 0, 1) := by decide +kernel
theorem dX5_readLetter_1 : decode cX5_readLetter 1 = .ok (.getfield 22, 3) := by decide +kernel
theorem dX5_readLetter_4 : decode cX5_readLetter 4 = .ok (.ldc 67, 2) := by decide +kernel
theorem dX5_readLetter_6 : decode cX5_readLetter 6 = .ok (.invokevirtual 69, 3) := by decide +kernel
theorem dX5_readLetter_9 : decode cX5_readLetter 9 = .ok (.ifCond .ge 13, 3) := by decide +kernel
theorem dX5_readLetter_12 : decode cX5_readLetter 12 = .ok (.aload_n 0, 1) := by decide +kernel
theorem dX5_readLetter_13 : decode cX5_readLetter 13 = .ok (.getfield 22, 3) := by decide +kernel
theorem dX5_readLetter_16 : decode cX5_readLetter 16 = .ok (.invokevirtual 73, 3) := by decide +kernel
theorem dX5_readLetter_19 : decode cX5_readLetter 19 = .ok (.goto 24, 3) := by decide +kernel
theorem dX5_readLetter_22 : decode cX5_readLetter 22 = .ok (.iload_n 1, 1) := by decide +kernel
theorem dX5_readLetter_23 : decode cX5_readLetter 23 = .ok (.bipush 14, 2) := by decide +kernel
theorem dX5_readLetter_25 : decode cX5_readLetter 25 = .ok (.if_icmp .ne 18, 3) := by decide +kernel
theorem dX5_readLetter_28 : decode cX5_readLetter 28 = .ok (.aload_n 0, 1) := by decide +kernel
theorem dX5_readLetter_29 : decode cX5_readLetter 29 = .ok (.getfield 22, 3) := by decide +kernel
theorem dX5_readLetter_32 : decode cX5_readLetter 32 = .ok (.iconst 4, 1) := by decide +kernel
theorem dX5_readLetter_33 : decode cX5_readLetter 33 = .ok (.aload_n 0, 1) := by decide +kernel
theorem dX5_readLetter_34 : decode cX5_readLetter 34 = .ok (.getfield 22, 3) := by decide +kernel
theorem dX5_readLetter_37 : decode cX5_readLetter 37 = .ok (.getfield 76, 3) := by decide +kernel
theorem dX5_readLetter_40 : decode cX5_readLetter 40 = .ok (.invokevirtual 79, 3) := by decide +kernel
theorem dX5_readLetter_43 : decode cX5_readLetter 43 = .ok (.aload_n 0, 1) := by decide +kernel
theorem dX5_readLetter_44 : decode cX5_readLetter 44 = .ok (.aload_n 0, 1) := by decide +kernel
theorem dX5_readLetter_45 : decode cX5_readLetter 45 = .ok (.getfield 22, 3) := by decide +kernel
theorem dX5_readLetter_48 : decode cX5_readLetter 48 = .ok (.getfield 83, 3) := by decide +kernel
theorem dX5_readLetter_51 : decode cX5_readLetter 51 = .ok (.putfield 18, 3) := by decide +kernel
theorem dX5_readLetter_54 : decode cX5_readLetter 54 = .ok (.aload_n 0, 1) := by decide +kernel
theorem dX5_readLetter_55 : decode cX5_readLetter 55 = .ok (.getfield 22, 3) := by decide +kernel
theorem dX5_readLetter_58 : decode cX5_readLetter 58 = .ok (.invokevirtual 86, 3) := by decide +kernel
theorem dX5_readLetter_61 : decode cX5_readLetter 61 = .ok (.aload_n 0, 1) := by decide +kernel
theorem dX5_readLetter_62 : decode cX5_readLetter 62 = .ok (.getfield 12, 3) := by decide +kernel
theorem dX5_readLetter_65 : decode cX5_readLetter 65 = .ok (.aload_n 0, 1) := by decide +kernel
theorem dX5_readLetter_66 : decode cX5_readLetter 66 = .ok (.getfield 18, 3) := by decide +kernel
theorem dX5_readLetter_69 : decode cX5_readLetter 69 = .ok (.invokevirtual 89, 3) := by decide +kernel
theorem dX5_readLetter_72 : decode cX5_readLetter 72 = .ok (.return_, 1) := by decide +kernel
theorem dX5_readPiece_0 : decode cX5_readPiece 0 = .ok (.aload_n 0, 1) := by decide +kernel
theorem dX5_readPiece_1 : decode cX5_readPiece 1 = .ok (.getfield 22, 3) := by decide +kernel
theorem dX5_readPiece_4 : decode cX5_readPiece 4 = .ok (.getfield 83, 3) := by decide +kernel
theorem dX5_readPiece_7 : decode cX5_readPiece 7 = .ok (.bipush 33, 2) := by decide +kernel
theorem dX5_readPiece_9 : decode cX5_readPiece 9 = .ok (.if_icmp .ne 31, 3) := by decide +kernel
theorem dX5_readPiece_12 : decode cX5_readPiece 12 = .ok (.aload_n 0, 1) := by decide +kernel
theorem dX5_readPiece_13 : decode cX5_readPiece 13 = .ok (.iload_n 1, 1) := by decide +kernel
theorem dX5_readPiece_14 : decode cX5_readPiece 14 = .ok (.invokevirtual 102, 3) := by decide +kernel
theorem dX5_readPiece_17 : decode cX5_readPiece 17 = .ok (.ifCond .eq 10, 3) := by decide +kernel
theorem dX5_readPiece_20 : decode cX5_readPiece 20 = .ok (.aload_n 0, 1) := by decide +kernel
theorem dX5_readPiece_21 : decode cX5_readPiece 21 = .ok (.iload_n 1, 1) := by decide +kernel
theorem dX5_readPiece_22 : decode cX5_readPiece 22 = .ok (.iconst 1, 1) := by decide +kernel
theorem dX5_readPiece_23 : decode cX5_readPiece 23 = .ok (.iadd, 1) := by decide +kernel
theorem dX5_readPiece_24 : decode cX5_readPiece 24 = .ok (.invokevirtual 92, 3) := by decide +kernel
theorem dX5_readPiece_27 : decode cX5_readPiece 27 = .ok (.aload_n 0, 1) := by decide +kernel
theorem dX5_readPiece_28 : decode cX5_readPiece 28 = .ok (.getfield 12, 3) := by decide +kernel
theorem dX5_readPiece_31 : decode cX5_readPiece 31 = .ok (.iconst 2, 1) := by decide +kernel
theorem dX5_readPiece_32 : decode cX5_readPiece 32 = .ok (.iconst 0, 1) := by decide +kernel
theorem dX5_readPiece_33 : decode cX5_readPiece 33 = .ok (.invokevirtual 98, 3) := by decide +kernel
theorem dX5_readPiece_36 : decode cX5_readPiece 36 = .ok (.pop, 1) := by decide +kernel
theorem dX5_readPiece_37 : decode cX5_readPiece 37 = .ok (.goto 100, 3) := by decide +kernel
theorem dX5_readPiece_40 : decode cX5_readPiece 40 = .ok (.aload_n 0, 1) := by decide +kernel
theorem dX5_readPiece_41 : decode cX5_readPiece 41 = .ok (.getfield 22, 3) := by decide +kernel
theorem dX5_readPiece_44 : decode cX5_readPiece 44 = .ok (.getfield 83, 3) := by decide +kernel
theorem dX5_readPiece_47 : decode cX5_readPiece 47 = .ok (.bipush 40, 2) := by decide +kernel
theorem dX5_readPiece_49 : decode cX5_readPiece 49 = .ok (.if_icmp .ne 30, 3) := by decide +kernel
theorem dX5_readPiece_52 : decode cX5_readPiece 52 = .ok (.aload_n 0, 1) := by decide +kernel
theorem dX5_readPiece_53 : decode cX5_readPiece 53 = .ok (.iload_n 1, 1) := by decide +kernel
theorem dX5_readPiece_54 : decode cX5_readPiece 54 = .ok (.invokevirtual 102, 3) := by decide +kernel
theorem dX5_readPiece_57 : decode cX5_readPiece 57 = .ok (.ifCond .eq 10, 3) := by decide +kernel
theorem dX5_readPiece_60 : decode cX5_readPiece 60 = .ok (.aload_n 0, 1) := by decide +kernel
theorem dX5_readPiece_61 : decode cX5_readPiece 61 = .ok (.iload_n 1, 1) := by decide +kernel
theorem dX5_readPiece_62 : decode cX5_readPiece 62 = .ok (.iconst 1, 1) := by decide +kernel
theorem dX5_readPiece_63 : decode cX5_readPiece 63 = .ok (.iadd, 1) := by decide +kernel
theorem dX5_readPiece_64 : decode cX5_readPiece 64 = .ok (.invokevirtual 48, 3) := by decide +kernel
theorem dX5_readPiece_67 : decode cX5_readPiece 67 = .ok (.aload_n 0, 1) := by decide +kernel
theorem dX5_readPiece_68 : decode cX5_readPiece 68 = .ok (.getfield 22, 3) := by decide +kernel
theorem dX5_readPiece_71 : decode cX5_readPiece 71 = .ok (.bipush 41, 2) := by decide +kernel
theorem dX5_readPiece_73 : decode cX5_readPiece 73 = .ok (.invokevirtual 44, 3) := by decide +kernel
theorem dX5_readPiece_76 : decode cX5_readPiece 76 = .ok (.goto 61, 3) := by decide +kernel
theorem dX5_readPiece_79 : decode cX5_readPiece 79 = .ok (.aload_n 0, 1) := by decide +kernel
theorem dX5_readPiece_80 : decode cX5_readPiece 80 = .ok (.iload_n 1, 1) := by decide +kernel
theorem dX5_readPiece_81 : decode cX5_readPiece 81 = .ok (.invokevirtual 38, 3) := by decide +kernel
theorem dX5_readPiece_84 : decode cX5_readPiece 84 = .ok (.iconst 5, 1) := by decide +kernel
theorem dX5_readPiece_85 : decode cX5_readPiece 85 = .ok (.aload_n 0, 1) := by decide +kernel
theorem dX5_readPiece_86 : decode cX5_readPiece 86 = .ok (.getfield 22, 3) := by decide +kernel
theorem dX5_readPiece_89 : decode cX5_readPiece 89 = .ok (.ldc 106, 2) := by decide +kernel
theorem dX5_readPiece_91 : decode cX5_readPiece 91 = .ok (.invokevirtual 69, 3) := by decide +kernel
theorem dX5_readPiece_94 : decode cX5_readPiece 94 = .ok (.iadd, 1) := by decide +kernel
theorem dX5_readPiece_95 : decode cX5_readPiece 95 = .ok (.istore_n 2, 1) := by decide +kernel
theorem dX5_readPiece_96 : decode cX5_readPiece 96 = .ok (.aload_n 0, 1) := by decide +kernel
theorem dX5_readPiece_97 : decode cX5_readPiece 97 = .ok (.getfield 22, 3) := by decide +kernel
theorem dX5_readPiece_100 : decode cX5_readPiece 100 = .ok (.ldc 108, 2) := by decide +kernel
theorem dX5_readPiece_102 : decode cX5_readPiece 102 = .ok (.invokevirtual 69, 3) := by decide +kernel
theorem dX5_readPiece_105 : decode cX5_readPiece 105 = .ok (.ifCond .ge 10, 3) := by decide +kernel
theorem dX5_readPiece_108 : decode cX5_readPiece 108 = .ok (.aload_n 0, 1) := by decide +kernel
theorem dX5_readPiece_109 : decode cX5_readPiece 109 = .ok (.getfield 22, 3) := by decide +kernel
theorem dX5_readPiece_112 : decode cX5_readPiece 112 = .ok (.invokevirtual 73, 3) := by decide +kernel
theorem dX5_readPiece_115 : decode cX5_readPiece 115 = .ok (.aload_n 0, 1) := by decide +kernel
theorem dX5_readPiece_116 : decode cX5_readPiece 116 = .ok (.getfield 22, 3) := by decide +kernel
theorem dX5_readPiece_119 : decode cX5_readPiece 119 = .ok (.invokevirtual 86, 3) := by decide +kernel
theorem dX5_readPiece_122 : decode cX5_readPiece 122 = .ok (.aload_n 0, 1) := by decide +kernel
theorem dX5_readPiece_123 : decode cX5_readPiece 123 = .ok (.iload_n 1, 1) := by decide +kernel
theorem dX5_readPiece_124 : decode cX5_readPiece 124 = .ok (.invokevirtual 38, 3) := by decide +kernel
theorem dX5_readPiece_127 : decode cX5_readPiece 127 = .ok (.aload_n 0, 1) := by decide +kernel
theorem dX5_readPiece_128 : decode cX5_readPiece 128 = .ok (.getfield 12, 3) := by decide +kernel
theorem dX5_readPiece_131 : decode cX5_readPiece 131 = .ok (.iload_n 2, 1) := by decide +kernel
theorem dX5_readPiece_132 : decode cX5_readPiece 132 = .ok (.iconst 0, 1) := by decide +kernel
theorem dX5_readPiece_133 : decode cX5_readPiece 133 = .ok (.invokevirtual 98, 3) := by decide +kernel
theorem dX5_readPiece_136 : decode cX5_readPiece 136 = .ok (.pop, 1) := by decide +kernel
theorem dX5_readPiece_137 : decode cX5_readPiece 137 = .ok (.return_, 1) := by decide +kernel
theorem dX5_readSum_0 : decode cX5_readSum 0 = .ok (.iconst (-1), 1) := by decide +kernel
theorem dX5_readSum_1 : decode cX5_readSum 1 = .ok (.istore_n 2, 1) := by decide +kernel
theorem dX5_readSum_2 : decode cX5_readSum 2 = .ok (.iconst 0, 1) := by decide +kernel
theorem dX5_readSum_3 : decode cX5_readSum 3 = .ok (.istore_n 3, 1) := by decide +kernel
theorem dX5_readSum_4 : decode cX5_readSum 4 = .ok (.iload_n 3, 1) := by decide +kernel
theorem dX5_readSum_5 : decode cX5_readSum 5 = .ok (.sipush 200, 3) := by decide +kernel
theorem dX5_readSum_8 : decode cX5_readSum 8 = .ok (.if_icmp .ge 145, 3) := by decide +kernel
theorem dX5_readSum_11 : decode cX5_readSum 11 = .ok (.aload_n 0, 1) := by decide +kernel
theorem dX5_readSum_12 : decode cX5_readSum 12 = .ok (.getfield 22, 3) := by decide +kernel
theorem dX5_readSum_15 : decode cX5_readSum 15 = .ok (.invokevirtual 51, 3) := by decide +kernel
theorem dX5_readSum_18 : decode cX5_readSum 18 = .ok (.ifCond .eq 135, 3) := by decide +kernel
theorem dX5_readSum_21 : decode cX5_readSum 21 = .ok (.aload_n 0, 1) := by decide +kernel
theorem dX5_readSum_22 : decode cX5_readSum 22 = .ok (.iload_n 1, 1) := by decide +kernel
theorem dX5_readSum_23 : decode cX5_readSum 23 = .ok (.invokevirtual 110, 3) := by decide +kernel
theorem dX5_readSum_26 : decode cX5_readSum 26 = .ok (.iconst 0, 1) := by decide +kernel
theorem dX5_readSum_27 : decode cX5_readSum 27 = .ok (.istore 4, 2) := by decide +kernel
theorem dX5_readSum_29 : decode cX5_readSum 29 = .ok (.iload 4, 2) := by decide +kernel
theorem dX5_readSum_31 : decode cX5_readSum 31 = .ok (.sipush 200, 3) := by decide +kernel
theorem dX5_readSum_34 : decode cX5_readSum 34 = .ok (.if_icmp .ge 67, 3) := by decide +kernel
theorem dX5_readSum_37 : decode cX5_readSum 37 = .ok (.aload_n 0, 1) := by decide +kernel
theorem dX5_readSum_38 : decode cX5_readSum 38 = .ok (.getfield 22, 3) := by decide +kernel
theorem dX5_readSum_41 : decode cX5_readSum 41 = .ok (.invokevirtual 51, 3) := by decide +kernel
theorem dX5_readSum_44 : decode cX5_readSum 44 = .ok (.ifCond .eq 57, 3) := by decide +kernel
theorem dX5_readSum_47 : decode cX5_readSum 47 = .ok (.aload_n 0, 1) := by decide +kernel
theorem dX5_readSum_48 : decode cX5_readSum 48 = .ok (.getfield 22, 3) := by decide +kernel
theorem dX5_readSum_51 : decode cX5_readSum 51 = .ok (.ldc 113, 2) := by decide +kernel
theorem dX5_readSum_53 : decode cX5_readSum 53 = .ok (.invokevirtual 69, 3) := by decide +kernel
theorem dX5_readSum_56 : decode cX5_readSum 56 = .ok (.ifCond .lt 45, 3) := by decide +kernel
theorem dX5_readSum_59 : decode cX5_readSum 59 = .ok (.iconst 5, 1) := by decide +kernel
theorem dX5_readSum_60 : decode cX5_readSum 60 = .ok (.aload_n 0, 1) := by decide +kernel
theorem dX5_readSum_61 : decode cX5_readSum 61 = .ok (.getfield 22, 3) := by decide +kernel
theorem dX5_readSum_64 : decode cX5_readSum 64 = .ok (.ldc 106, 2) := by decide +kernel
theorem dX5_readSum_66 : decode cX5_readSum 66 = .ok (.invokevirtual 69, 3) := by decide +kernel
theorem dX5_readSum_69 : decode cX5_readSum 69 = .ok (.iadd, 1) := by decide +kernel
theorem dX5_readSum_70 : decode cX5_readSum 70 = .ok (.istore 5, 2) := by decide +kernel
theorem dX5_readSum_72 : decode cX5_readSum 72 = .ok (.aload_n 0, 1) := by decide +kernel
theorem dX5_readSum_73 : decode cX5_readSum 73 = .ok (.getfield 22, 3) := by decide +kernel
theorem dX5_readSum_76 : decode cX5_readSum 76 = .ok (.invokevirtual 86, 3) := by decide +kernel
theorem dX5_readSum_79 : decode cX5_readSum 79 = .ok (.aload_n 0, 1) := by decide +kernel
theorem dX5_readSum_80 : decode cX5_readSum 80 = .ok (.iload_n 1, 1) := by decide +kernel
theorem dX5_readSum_81 : decode cX5_readSum 81 = .ok (.invokevirtual 110, 3) := by decide +kernel
theorem dX5_readSum_84 : decode cX5_readSum 84 = .ok (.aload_n 0, 1) := by decide +kernel
theorem dX5_readSum_85 : decode cX5_readSum 85 = .ok (.getfield 12, 3) := by decide +kernel
theorem dX5_readSum_88 : decode cX5_readSum 88 = .ok (.iload 5, 2) := by decide +kernel
theorem dX5_readSum_90 : decode cX5_readSum 90 = .ok (.iconst 0, 1) := by decide +kernel
theorem dX5_readSum_91 : decode cX5_readSum 91 = .ok (.invokevirtual 98, 3) := by decide +kernel
theorem dX5_readSum_94 : decode cX5_readSum 94 = .ok (.pop, 1) := by decide +kernel
theorem dX5_readSum_95 : decode cX5_readSum 95 = .ok (.iinc 4 1, 3) := by decide +kernel
theorem dX5_readSum_98 : decode cX5_readSum 98 = .ok (.goto (-69), 3) := by decide +kernel
theorem dX5_readSum_101 : decode cX5_readSum 101 = .ok (.iload_n 2, 1) := by decide +kernel
theorem dX5_readSum_102 : decode cX5_readSum 102 = .ok (.ifCond .lt 13, 3) := by decide +kernel
theorem dX5_readSum_105 : decode cX5_readSum 105 = .ok (.aload_n 0, 1) := by decide +kernel
theorem dX5_readSum_106 : decode cX5_readSum 106 = .ok (.getfield 12, 3) := by decide +kernel
theorem dX5_readSum_109 : decode cX5_readSum 109 = .ok (.iload_n 2, 1) := by decide +kernel
theorem dX5_readSum_110 : decode cX5_readSum 110 = .ok (.iconst 0, 1) := by decide +kernel
theorem dX5_readSum_111 : decode cX5_readSum 111 = .ok (.invokevirtual 98, 3) := by decide +kernel
theorem dX5_readSum_114 : decode cX5_readSum 114 = .ok (.pop, 1) := by decide +kernel
theorem dX5_readSum_115 : decode cX5_readSum 115 = .ok (.aload_n 0, 1) := by decide +kernel
theorem dX5_readSum_116 : decode cX5_readSum 116 = .ok (.getfield 22, 3) := by decide +kernel
theorem dX5_readSum_119 : decode cX5_readSum 119 = .ok (.ldc 115, 2) := by decide +kernel
theorem dX5_readSum_121 : decode cX5_readSum 121 = .ok (.invokevirtual 69, 3) := by decide +kernel
theorem dX5_readSum_124 : decode cX5_readSum 124 = .ok (.ifCond .ge 4, 3) := by decide +kernel
theorem dX5_readSum_127 : decode cX5_readSum 127 = .ok (.return_, 1) := by decide +kernel
theorem dX5_readSum_128 : decode cX5_readSum 128 = .ok (.iconst 5, 1) := by decide +kernel
theorem dX5_readSum_129 : decode cX5_readSum 129 = .ok (.aload_n 0, 1) := by decide +kernel
theorem dX5_readSum_130 : decode cX5_readSum 130 = .ok (.getfield 22, 3) := by decide +kernel
theorem dX5_readSum_133 : decode cX5_readSum 133 = .ok (.ldc 106, 2) := by decide +kernel
theorem dX5_readSum_135 : decode cX5_readSum 135 = .ok (.invokevirtual 69, 3) := by decide +kernel
theorem dX5_readSum_138 : decode cX5_readSum 138 = .ok (.iadd, 1) := by decide +kernel
theorem dX5_readSum_139 : decode cX5_readSum 139 = .ok (.istore_n 2, 1) := by decide +kernel
theorem dX5_readSum_140 : decode cX5_readSum 140 = .ok (.aload_n 0, 1) := by decide +kernel
theorem dX5_readSum_141 : decode cX5_readSum 141 = .ok (.getfield 22, 3) := by decide +kernel
theorem dX5_readSum_144 : decode cX5_readSum 144 = .ok (.invokevirtual 86, 3) := by decide +kernel
theorem dX5_readSum_147 : decode cX5_readSum 147 = .ok (.iinc 3 1, 3) := by decide +kernel
theorem dX5_readSum_150 : decode cX5_readSum 150 = .ok (.goto (-146), 3) := by decide +kernel
theorem dX5_readSum_153 : decode cX5_readSum 153 = .ok (.return_, 1) := by decide +kernel
theorem dX6_add_0 : decode cX6_add 0 = .ok (.aload_n 0, 1) := by decide +kernel
theorem dX6_add_1 : decode cX6_add 1 = .ok (.getfield 9, 3) := by decide +kernel
theorem dX6_add_4 : decode cX6_add 4 = .ok (.bipush 20, 2) := by decide +kernel
theorem dX6_add_6 : decode cX6_add 6 = .ok (.if_icmp .lt 4, 3) := by decide +kernel
theorem dX6_add_9 : decode cX6_add 9 = .ok (.return_, 1) := by decide +kernel
theorem dX6_add_10 : decode cX6_add 10 = .ok (.aload_n 0, 1) := by decide +kernel
theorem dX6_add_11 : decode cX6_add 11 = .ok (.getfield 9, 3) := by decide +kernel
theorem dX6_add_14 : decode cX6_add 14 = .ok (.istore 5, 2) := by decide +kernel
theorem dX6_add_16 : decode cX6_add 16 = .ok (.aload_n 0, 1) := by decide +kernel
theorem dX6_add_17 : decode cX6_add 17 = .ok (.dup, 1) := by decide +kernel
theorem dX6_add_18 : decode cX6_add 18 = .ok (.getfield 9, 3) := by decide +kernel
theorem dX6_add_21 : decode cX6_add 21 = .ok (.iconst 1, 1) := by decide +kernel
theorem dX6_add_22 : decode cX6_add 22 = .ok (.iadd, 1) := by decide +kernel
theorem dX6_add_23 : decode cX6_add 23 = .ok (.putfield 9, 3) := by decide +kernel
theorem dX6_add_26 : decode cX6_add 26 = .ok (.aload_n 0, 1) := by decide +kernel
theorem dX6_add_27 : decode cX6_add 27 = .ok (.getfield 15, 3) := by decide +kernel
theorem dX6_add_30 : decode cX6_add 30 = .ok (.iload 5, 2) := by decide +kernel
theorem dX6_add_32 : decode cX6_add 32 = .ok (.iload_n 1, 1) := by decide +kernel
theorem dX6_add_33 : decode cX6_add 33 = .ok (.invokestatic 41, 3) := by decide +kernel
theorem dX6_add_36 : decode cX6_add 36 = .ok (.aload_n 0, 1) := by decide +kernel
theorem dX6_add_37 : decode cX6_add 37 = .ok (.getfield 19, 3) := by decide +kernel
theorem dX6_add_40 : decode cX6_add 40 = .ok (.iload 5, 2) := by decide +kernel
theorem dX6_add_42 : decode cX6_add 42 = .ok (.iload_n 2, 1) := by decide +kernel
theorem dX6_add_43 : decode cX6_add 43 = .ok (.invokestatic 41, 3) := by decide +kernel
theorem dX6_add_46 : decode cX6_add 46 = .ok (.aload_n 0, 1) := by decide +kernel
theorem dX6_add_47 : decode cX6_add 47 = .ok (.getfield 22, 3) := by decide +kernel
theorem dX6_add_50 : decode cX6_add 50 = .ok (.iload 5, 2) := by decide +kernel
theorem dX6_add_52 : decode cX6_add 52 = .ok (.iload_n 3, 1) := by decide +kernel
theorem dX6_add_53 : decode cX6_add 53 = .ok (.invokestatic 41, 3) := by decide +kernel
theorem dX6_add_56 : decode cX6_add 56 = .ok (.aload_n 0, 1) := by decide +kernel
theorem dX6_add_57 : decode cX6_add 57 = .ok (.getfield 25, 3) := by decide +kernel
theorem dX6_add_60 : decode cX6_add 60 = .ok (.iload 5, 2) := by decide +kernel
theorem dX6_add_62 : decode cX6_add 62 = .ok (.iload 4, 2) := by decide +kernel
theorem dX6_add_64 : decode cX6_add 64 = .ok (.invokestatic 41, 3) := by decide +kernel
theorem dX6_add_67 : decode cX6_add 67 = .ok (.aload_n 0, 1) := by decide +kernel
theorem dX6_add_68 : decode cX6_add 68 = .ok (.getfield 28, 3) := by decide +kernel
theorem dX6_add_71 : decode cX6_add 71 = .ok (.iload 5, 2) := by decide +kernel
theorem dX6_add_73 : decode cX6_add 73 = .ok (.iconst 0, 1) := by decide +kernel
theorem dX6_add_74 : decode cX6_add 74 = .ok (.invokestatic 41, 3) := by decide +kernel
theorem dX6_add_77 : decode cX6_add 77 = .ok (.aload_n 0, 1) := by decide +kernel
theorem dX6_add_78 : decode cX6_add 78 = .ok (.getfield 31, 3) := by decide +kernel
theorem dX6_add_81 : decode cX6_add 81 = .ok (.iload 5, 2) := by decide +kernel
theorem dX6_add_83 : decode cX6_add 83 = .ok (.iconst 0, 1) := by decide +kernel
theorem dX6_add_84 : decode cX6_add 84 = .ok (.invokestatic 41, 3) := by decide +kernel
theorem dX6_add_87 : decode cX6_add 87 = .ok (.aload_n 0, 1) := by decide +kernel
theorem dX6_add_88 : decode cX6_add 88 = .ok (.getfield 34, 3) := by decide +kernel
theorem dX6_add_91 : decode cX6_add 91 = .ok (.iload 5, 2) := by decide +kernel
theorem dX6_add_93 : decode cX6_add 93 = .ok (.iconst 0, 1) := by decide +kernel
theorem dX6_add_94 : decode cX6_add 94 = .ok (.invokestatic 41, 3) := by decide +kernel
theorem dX6_add_97 : decode cX6_add 97 = .ok (.iload_n 2, 1) := by decide +kernel
theorem dX6_add_98 : decode cX6_add 98 = .ok (.ifCond .eq 10, 3) := by decide +kernel
theorem dX6_add_101 : decode cX6_add 101 = .ok (.aload_n 0, 1) := by decide +kernel
theorem dX6_add_102 : decode cX6_add 102 = .ok (.iload 5, 2) := by decide +kernel
theorem dX6_add_104 : decode cX6_add 104 = .ok (.iload_n 3, 1) := by decide +kernel
theorem dX6_add_105 : decode cX6_add 105 = .ok (.invokevirtual 45, 3) := by decide +kernel
theorem dX6_add_108 : decode cX6_add 108 = .ok (.iload_n 2, 1) := by decide +kernel
theorem dX6_add_109 : decode cX6_add 109 = .ok (.iconst 3, 1) := by decide +kernel
theorem dX6_add_110 : decode cX6_add 110 = .ok (.if_icmp .lt 17, 3) := by decide +kernel
theorem dX6_add_113 : decode cX6_add 113 = .ok (.iload 4, 2) := by decide +kernel
theorem dX6_add_115 : decode cX6_add 115 = .ok (.iload_n 3, 1) := by decide +kernel
theorem dX6_add_116 : decode cX6_add 116 = .ok (.if_icmp .eq 11, 3) := by decide +kernel
theorem dX6_add_119 : decode cX6_add 119 = .ok (.aload_n 0, 1) := by decide +kernel
theorem dX6_add_120 : decode cX6_add 120 = .ok (.iload 5, 2) := by decide +kernel
theorem dX6_add_122 : decode cX6_add 122 = .ok (.iload 4, 2) := by decide +kernel
theorem dX6_add_124 : decode cX6_add 124 = .ok (.invokevirtual 45, 3) := by decide +kernel
theorem dX6_add_127 : decode cX6_add 127 = .ok (.return_, 1) := by decide +kernel
theorem dX6_allLines_0 : decode cX6_allLines 0 = .ok (.aload_n 0, 1) := by decide +kernel
theorem dX6_allLines_1 : decode cX6_allLines 1 = .ok (.getfield 9, 3) := by decide +kernel
theorem dX6_allLines_4 : decode cX6_allLines 4 = .ok (.invokestatic 59, 3) := by decide +kernel
theorem dX6_allLines_7 : decode cX6_allLines 7 = .ok (.iconst 1, 1) := by decide +kernel
theorem dX6_allLines_8 : decode cX6_allLines 8 = .ok (.isub, 1) := by decide +kernel
theorem dX6_allLines_9 : decode cX6_allLines 9 = .ok (.ireturn, 1) := by decide +kernel
theorem dX6_become_0 : decode cX6_become 0 = .ok (.aload_n 0, 1) := by decide +kernel
theorem dX6_become_1 : decode cX6_become 1 = .ok (.aload_n 1, 1) := by decide +kernel
theorem dX6_become_2 : decode cX6_become 2 = .ok (.getfield 9, 3) := by decide +kernel
theorem dX6_become_5 : decode cX6_become 5 = .ok (.putfield 9, 3) := by decide +kernel
theorem dX6_become_8 : decode cX6_become 8 = .ok (.aload_n 1, 1) := by decide +kernel
theorem dX6_become_9 : decode cX6_become 9 = .ok (.getfield 15, 3) := by decide +kernel
theorem dX6_become_12 : decode cX6_become 12 = .ok (.aload_n 0, 1) := by decide +kernel
theorem dX6_become_13 : decode cX6_become 13 = .ok (.getfield 15, 3) := by decide +kernel
theorem dX6_become_16 : decode cX6_become 16 = .ok (.invokestatic 37, 3) := by decide +kernel
theorem dX6_become_19 : decode cX6_become 19 = .ok (.aload_n 1, 1) := by decide +kernel
theorem dX6_become_20 : decode cX6_become 20 = .ok (.getfield 19, 3) := by decide +kernel
theorem dX6_become_23 : decode cX6_become 23 = .ok (.aload_n 0, 1) := by decide +kernel
theorem dX6_become_24 : decode cX6_become 24 = .ok (.getfield 19, 3) := by decide +kernel
theorem dX6_become_27 : decode cX6_become 27 = .ok (.invokestatic 37, 3) := by decide +kernel
theorem dX6_become_30 : decode cX6_become 30 = .ok (.aload_n 1, 1) := by decide +kernel
theorem dX6_become_31 : decode cX6_become 31 = .ok (.getfield 22, 3) := by decide +kernel
theorem dX6_become_34 : decode cX6_become 34 = .ok (.aload_n 0, 1) := by decide +kernel
theorem dX6_become_35 : decode cX6_become 35 = .ok (.getfield 22, 3) := by decide +kernel
theorem dX6_become_38 : decode cX6_become 38 = .ok (.invokestatic 37, 3) := by decide +kernel
theorem dX6_become_41 : decode cX6_become 41 = .ok (.aload_n 1, 1) := by decide +kernel
theorem dX6_become_42 : decode cX6_become 42 = .ok (.getfield 25, 3) := by decide +kernel
theorem dX6_become_45 : decode cX6_become 45 = .ok (.aload_n 0, 1) := by decide +kernel
theorem dX6_become_46 : decode cX6_become 46 = .ok (.getfield 25, 3) := by decide +kernel
theorem dX6_become_49 : decode cX6_become 49 = .ok (.invokestatic 37, 3) := by decide +kernel
theorem dX6_become_52 : decode cX6_become 52 = .ok (.aload_n 1, 1) := by decide +kernel
theorem dX6_become_53 : decode cX6_become 53 = .ok (.getfield 28, 3) := by decide +kernel
theorem dX6_become_56 : decode cX6_become 56 = .ok (.aload_n 0, 1) := by decide +kernel
theorem dX6_become_57 : decode cX6_become 57 = .ok (.getfield 28, 3) := by decide +kernel
theorem dX6_become_60 : decode cX6_become 60 = .ok (.invokestatic 37, 3) := by decide +kernel
theorem dX6_become_63 : decode cX6_become 63 = .ok (.aload_n 1, 1) := by decide +kernel
theorem dX6_become_64 : decode cX6_become 64 = .ok (.getfield 31, 3) := by decide +kernel
theorem dX6_become_67 : decode cX6_become 67 = .ok (.aload_n 0, 1) := by decide +kernel
theorem dX6_become_68 : decode cX6_become 68 = .ok (.getfield 31, 3) := by decide +kernel
theorem dX6_become_71 : decode cX6_become 71 = .ok (.invokestatic 37, 3) := by decide +kernel
theorem dX6_become_74 : decode cX6_become 74 = .ok (.aload_n 1, 1) := by decide +kernel
theorem dX6_become_75 : decode cX6_become 75 = .ok (.getfield 34, 3) := by decide +kernel
theorem dX6_become_78 : decode cX6_become 78 = .ok (.aload_n 0, 1) := by decide +kernel
theorem dX6_become_79 : decode cX6_become 79 = .ok (.getfield 34, 3) := by decide +kernel
theorem dX6_become_82 : decode cX6_become 82 = .ok (.invokestatic 37, 3) := by decide +kernel
theorem dX6_become_85 : decode cX6_become 85 = .ok (.return_, 1) := by decide +kernel
theorem dX6_clear_0 : decode cX6_clear 0 = .ok (.aload_n 0, 1) := by decide +kernel
theorem dX6_clear_1 : decode cX6_clear 1 = .ok (.iconst 0, 1) := by decide +kernel
theorem dX6_clear_2 : decode cX6_clear 2 = .ok (.putfield 9, 3) := by decide +kernel
theorem dX6_clear_5 : decode cX6_clear 5 = .ok (.return_, 1) := by decide +kernel
theorem dX6_has_0 : decode cX6_has 0 = .ok (.aload_n 0, 1) := by decide +kernel
theorem dX6_has_1 : decode cX6_has 1 = .ok (.getfield 19, 3) := by decide +kernel
theorem dX6_has_4 : decode cX6_has 4 = .ok (.iload_n 1, 1) := by decide +kernel
theorem dX6_has_5 : decode cX6_has 5 = .ok (.invokestatic 49, 3) := by decide +kernel
theorem dX6_has_8 : decode cX6_has 8 = .ok (.istore_n 3, 1) := by decide +kernel
theorem dX6_has_9 : decode cX6_has 9 = .ok (.iload_n 3, 1) := by decide +kernel
theorem dX6_has_10 : decode cX6_has 10 = .ok (.ifCond .eq 15, 3) := by decide +kernel
theorem dX6_has_13 : decode cX6_has 13 = .ok (.aload_n 0, 1) := by decide +kernel
theorem dX6_has_14 : decode cX6_has 14 = .ok (.getfield 22, 3) := by decide +kernel
theorem dX6_has_17 : decode cX6_has 17 = .ok (.iload_n 1, 1) := by decide +kernel
theorem dX6_has_18 : decode cX6_has 18 = .ok (.invokestatic 49, 3) := by decide +kernel
theorem dX6_has_21 : decode cX6_has 21 = .ok (.iload_n 2, 1) := by decide +kernel
theorem dX6_has_22 : decode cX6_has 22 = .ok (.if_icmp .eq 20, 3) := by decide +kernel
theorem dX6_has_25 : decode cX6_has 25 = .ok (.iload_n 3, 1) := by decide +kernel
theorem dX6_has_26 : decode cX6_has 26 = .ok (.iconst 3, 1) := by decide +kernel
theorem dX6_has_27 : decode cX6_has 27 = .ok (.if_icmp .lt 19, 3) := by decide +kernel
theorem dX6_has_30 : decode cX6_has 30 = .ok (.aload_n 0, 1) := by decide +kernel
theorem dX6_has_31 : decode cX6_has 31 = .ok (.getfield 25, 3) := by decide +kernel
theorem dX6_has_34 : decode cX6_has 34 = .ok (.iload_n 1, 1) := by decide +kernel
theorem dX6_has_35 : decode cX6_has 35 = .ok (.invokestatic 49, 3) := by decide +kernel
theorem dX6_has_38 : decode cX6_has 38 = .ok (.iload_n 2, 1) := by decide +kernel
theorem dX6_has_39 : decode cX6_has 39 = .ok (.if_icmp .ne 7, 3) := by decide +kernel
theorem dX6_has_42 : decode cX6_has 42 = .ok (.iconst 1, 1) := by decide +kernel
theorem dX6_has_43 : decode cX6_has 43 = .ok (.goto 4, 3) := by decide +kernel
theorem dX6_has_46 : decode cX6_has 46 = .ok (.iconst 0, 1) := by decide +kernel
theorem dX6_has_47 : decode cX6_has 47 = .ok (.ireturn, 1) := by decide +kernel
theorem dX6_holds_0 : decode cX6_holds 0 = .ok (.iload_n 1, 1) := by decide +kernel
theorem dX6_holds_1 : decode cX6_holds 1 = .ok (.ifCond .lt 15, 3) := by decide +kernel
theorem dX6_holds_4 : decode cX6_holds 4 = .ok (.iload_n 1, 1) := by decide +kernel
theorem dX6_holds_5 : decode cX6_holds 5 = .ok (.aload_n 0, 1) := by decide +kernel
theorem dX6_holds_6 : decode cX6_holds 6 = .ok (.getfield 9, 3) := by decide +kernel
theorem dX6_holds_9 : decode cX6_holds 9 = .ok (.if_icmp .ge 7, 3) := by decide +kernel
theorem dX6_holds_12 : decode cX6_holds 12 = .ok (.iconst 1, 1) := by decide +kernel
theorem dX6_holds_13 : decode cX6_holds 13 = .ok (.goto 4, 3) := by decide +kernel
theorem dX6_holds_16 : decode cX6_holds 16 = .ok (.iconst 0, 1) := by decide +kernel
theorem dX6_holds_17 : decode cX6_holds 17 = .ok (.ireturn, 1) := by decide +kernel
theorem dX6_init_0 : decode cX6_init 0 = .ok (.aload_n 0, 1) := by decide +kernel
theorem dX6_init_1 : decode cX6_init 1 = .ok (.invokespecial 3, 3) := by decide +kernel
theorem dX6_init_4 : decode cX6_init 4 = .ok (.aload_n 0, 1) := by decide +kernel
theorem dX6_init_5 : decode cX6_init 5 = .ok (.iconst 0, 1) := by decide +kernel
theorem dX6_init_6 : decode cX6_init 6 = .ok (.putfield 9, 3) := by decide +kernel
theorem dX6_init_9 : decode cX6_init 9 = .ok (.aload_n 0, 1) := by decide +kernel
theorem dX6_init_10 : decode cX6_init 10 = .ok (.bipush 20, 2) := by decide +kernel
theorem dX6_init_12 : decode cX6_init 12 = .ok (.newarray .int, 2) := by decide +kernel
theorem dX6_init_14 : decode cX6_init 14 = .ok (.putfield 15, 3) := by decide +kernel
theorem dX6_init_17 : decode cX6_init 17 = .ok (.aload_n 0, 1) := by decide +kernel
theorem dX6_init_18 : decode cX6_init 18 = .ok (.bipush 20, 2) := by decide +kernel
theorem dX6_init_20 : decode cX6_init 20 = .ok (.newarray .int, 2) := by decide +kernel
theorem dX6_init_22 : decode cX6_init 22 = .ok (.putfield 19, 3) := by decide +kernel
theorem dX6_init_25 : decode cX6_init 25 = .ok (.aload_n 0, 1) := by decide +kernel
theorem dX6_init_26 : decode cX6_init 26 = .ok (.bipush 20, 2) := by decide +kernel
theorem dX6_init_28 : decode cX6_init 28 = .ok (.newarray .int, 2) := by decide +kernel
theorem dX6_init_30 : decode cX6_init 30 = .ok (.putfield 22, 3) := by decide +kernel
theorem dX6_init_33 : decode cX6_init 33 = .ok (.aload_n 0, 1) := by decide +kernel
theorem dX6_init_34 : decode cX6_init 34 = .ok (.bipush 20, 2) := by decide +kernel
theorem dX6_init_36 : decode cX6_init 36 = .ok (.newarray .int, 2) := by decide +kernel
theorem dX6_init_38 : decode cX6_init 38 = .ok (.putfield 25, 3) := by decide +kernel
theorem dX6_init_41 : decode cX6_init 41 = .ok (.aload_n 0, 1) := by decide +kernel
theorem dX6_init_42 : decode cX6_init 42 = .ok (.bipush 20, 2) := by decide +kernel
theorem dX6_init_44 : decode cX6_init 44 = .ok (.newarray .int, 2) := by decide +kernel
theorem dX6_init_46 : decode cX6_init 46 = .ok (.putfield 28, 3) := by decide +kernel
theorem dX6_init_49 : decode cX6_init 49 = .ok (.aload_n 0, 1) := by decide +kernel
theorem dX6_init_50 : decode cX6_init 50 = .ok (.bipush 20, 2) := by decide +kernel
theorem dX6_init_52 : decode cX6_init 52 = .ok (.newarray .int, 2) := by decide +kernel
theorem dX6_init_54 : decode cX6_init 54 = .ok (.putfield 31, 3) := by decide +kernel
theorem dX6_init_57 : decode cX6_init 57 = .ok (.aload_n 0, 1) := by decide +kernel
theorem dX6_init_58 : decode cX6_init 58 = .ok (.bipush 20, 2) := by decide +kernel
theorem dX6_init_60 : decode cX6_init 60 = .ok (.newarray .int, 2) := by decide +kernel
theorem dX6_init_62 : decode cX6_init 62 = .ok (.putfield 34, 3) := by decide +kernel
theorem dX6_init_65 : decode cX6_init 65 = .ok (.return_, 1) := by decide +kernel
theorem dX6_last_0 : decode cX6_last 0 = .ok (.aload_n 0, 1) := by decide +kernel
theorem dX6_last_1 : decode cX6_last 1 = .ok (.getfield 9, 3) := by decide +kernel
theorem dX6_last_4 : decode cX6_last 4 = .ok (.iconst 1, 1) := by decide +kernel
theorem dX6_last_5 : decode cX6_last 5 = .ok (.isub, 1) := by decide +kernel
theorem dX6_last_6 : decode cX6_last 6 = .ok (.ireturn, 1) := by decide +kernel
theorem dX6_lean_0 : decode cX6_lean 0 = .ok (.aload_n 0, 1) := by decide +kernel
theorem dX6_lean_1 : decode cX6_lean 1 = .ok (.getfield 28, 3) := by decide +kernel
theorem dX6_lean_4 : decode cX6_lean 4 = .ok (.iload_n 1, 1) := by decide +kernel
theorem dX6_lean_5 : decode cX6_lean 5 = .ok (.aload_n 0, 1) := by decide +kernel
theorem dX6_lean_6 : decode cX6_lean 6 = .ok (.getfield 28, 3) := by decide +kernel
theorem dX6_lean_9 : decode cX6_lean 9 = .ok (.iload_n 1, 1) := by decide +kernel
theorem dX6_lean_10 : decode cX6_lean 10 = .ok (.invokestatic 49, 3) := by decide +kernel
theorem dX6_lean_13 : decode cX6_lean 13 = .ok (.aload_n 0, 1) := by decide +kernel
theorem dX6_lean_14 : decode cX6_lean 14 = .ok (.getfield 28, 3) := by decide +kernel
theorem dX6_lean_17 : decode cX6_lean 17 = .ok (.iload_n 2, 1) := by decide +kernel
theorem dX6_lean_18 : decode cX6_lean 18 = .ok (.invokestatic 49, 3) := by decide +kernel
theorem dX6_lean_21 : decode cX6_lean 21 = .ok (.iconst 1, 1) := by decide +kernel
theorem dX6_lean_22 : decode cX6_lean 22 = .ok (.iadd, 1) := by decide +kernel
theorem dX6_lean_23 : decode cX6_lean 23 = .ok (.invokestatic 53, 3) := by decide +kernel
theorem dX6_lean_26 : decode cX6_lean 26 = .ok (.invokestatic 41, 3) := by decide +kernel
theorem dX6_lean_29 : decode cX6_lean 29 = .ok (.aload_n 0, 1) := by decide +kernel
theorem dX6_lean_30 : decode cX6_lean 30 = .ok (.getfield 34, 3) := by decide +kernel
theorem dX6_lean_33 : decode cX6_lean 33 = .ok (.iload_n 1, 1) := by decide +kernel
theorem dX6_lean_34 : decode cX6_lean 34 = .ok (.aload_n 0, 1) := by decide +kernel
theorem dX6_lean_35 : decode cX6_lean 35 = .ok (.getfield 34, 3) := by decide +kernel
theorem dX6_lean_38 : decode cX6_lean 38 = .ok (.iload_n 1, 1) := by decide +kernel
theorem dX6_lean_39 : decode cX6_lean 39 = .ok (.invokestatic 49, 3) := by decide +kernel
theorem dX6_lean_42 : decode cX6_lean 42 = .ok (.aload_n 0, 1) := by decide +kernel
theorem dX6_lean_43 : decode cX6_lean 43 = .ok (.getfield 34, 3) := by decide +kernel
theorem dX6_lean_46 : decode cX6_lean 46 = .ok (.iload_n 2, 1) := by decide +kernel
theorem dX6_lean_47 : decode cX6_lean 47 = .ok (.invokestatic 49, 3) := by decide +kernel
theorem dX6_lean_50 : decode cX6_lean 50 = .ok (.ior, 1) := by decide +kernel
theorem dX6_lean_51 : decode cX6_lean 51 = .ok (.iload_n 2, 1) := by decide +kernel
theorem dX6_lean_52 : decode cX6_lean 52 = .ok (.invokestatic 59, 3) := by decide +kernel
theorem dX6_lean_55 : decode cX6_lean 55 = .ok (.ior, 1) := by decide +kernel
theorem dX6_lean_56 : decode cX6_lean 56 = .ok (.invokestatic 41, 3) := by decide +kernel
theorem dX6_lean_59 : decode cX6_lean 59 = .ok (.aload_n 0, 1) := by decide +kernel
theorem dX6_lean_60 : decode cX6_lean 60 = .ok (.getfield 31, 3) := by decide +kernel
theorem dX6_lean_63 : decode cX6_lean 63 = .ok (.iload_n 2, 1) := by decide +kernel
theorem dX6_lean_64 : decode cX6_lean 64 = .ok (.aload_n 0, 1) := by decide +kernel
theorem dX6_lean_65 : decode cX6_lean 65 = .ok (.getfield 31, 3) := by decide +kernel
theorem dX6_lean_68 : decode cX6_lean 68 = .ok (.iload_n 2, 1) := by decide +kernel
theorem dX6_lean_69 : decode cX6_lean 69 = .ok (.invokestatic 49, 3) := by decide +kernel
theorem dX6_lean_72 : decode cX6_lean 72 = .ok (.iconst 1, 1) := by decide +kernel
theorem dX6_lean_73 : decode cX6_lean 73 = .ok (.iadd, 1) := by decide +kernel
theorem dX6_lean_74 : decode cX6_lean 74 = .ok (.invokestatic 41, 3) := by decide +kernel
theorem dX6_lean_77 : decode cX6_lean 77 = .ok (.return_, 1) := by decide +kernel
theorem dX6_standingOn_0 : decode cX6_standingOn 0 = .ok (.iconst 0, 1) := by decide +kernel
theorem dX6_standingOn_1 : decode cX6_standingOn 1 = .ok (.istore_n 2, 1) := by decide +kernel
theorem dX6_standingOn_2 : decode cX6_standingOn 2 = .ok (.iload_n 1, 1) := by decide +kernel
theorem dX6_standingOn_3 : decode cX6_standingOn 3 = .ok (.iconst 1, 1) := by decide +kernel
theorem dX6_standingOn_4 : decode cX6_standingOn 4 = .ok (.iadd, 1) := by decide +kernel
theorem dX6_standingOn_5 : decode cX6_standingOn 5 = .ok (.istore_n 3, 1) := by decide +kernel
theorem dX6_standingOn_6 : decode cX6_standingOn 6 = .ok (.iload_n 3, 1) := by decide +kernel
theorem dX6_standingOn_7 : decode cX6_standingOn 7 = .ok (.aload_n 0, 1) := by decide +kernel
theorem dX6_standingOn_8 : decode cX6_standingOn 8 = .ok (.getfield 9, 3) := by decide +kernel
theorem dX6_standingOn_11 : decode cX6_standingOn 11 = .ok (.if_icmp .ge 31, 3) := by decide +kernel
theorem dX6_standingOn_14 : decode cX6_standingOn 14 = .ok (.aload_n 0, 1) := by decide +kernel
theorem dX6_standingOn_15 : decode cX6_standingOn 15 = .ok (.getfield 34, 3) := by decide +kernel
theorem dX6_standingOn_18 : decode cX6_standingOn 18 = .ok (.iload_n 3, 1) := by decide +kernel
theorem dX6_standingOn_19 : decode cX6_standingOn 19 = .ok (.invokestatic 49, 3) := by decide +kernel
theorem dX6_standingOn_22 : decode cX6_standingOn 22 = .ok (.iload_n 1, 1) := by decide +kernel
theorem dX6_standingOn_23 : decode cX6_standingOn 23 = .ok (.invokestatic 63, 3) := by decide +kernel
theorem dX6_standingOn_26 : decode cX6_standingOn 26 = .ok (.ifCond .eq 10, 3) := by decide +kernel
theorem dX6_standingOn_29 : decode cX6_standingOn 29 = .ok (.iload_n 2, 1) := by decide +kernel
theorem dX6_standingOn_30 : decode cX6_standingOn 30 = .ok (.iload_n 3, 1) := by decide +kernel
theorem dX6_standingOn_31 : decode cX6_standingOn 31 = .ok (.invokestatic 59, 3) := by decide +kernel
theorem dX6_standingOn_34 : decode cX6_standingOn 34 = .ok (.ior, 1) := by decide +kernel
theorem dX6_standingOn_35 : decode cX6_standingOn 35 = .ok (.istore_n 2, 1) := by decide +kernel
theorem dX6_standingOn_36 : decode cX6_standingOn 36 = .ok (.iinc 3 1, 3) := by decide +kernel
theorem dX6_standingOn_39 : decode cX6_standingOn 39 = .ok (.goto (-33), 3) := by decide +kernel
theorem dX6_standingOn_42 : decode cX6_standingOn 42 = .ok (.iload_n 2, 1) := by decide +kernel
theorem dX6_standingOn_43 : decode cX6_standingOn 43 = .ok (.ireturn, 1) := by decide +kernel
theorem dX7_digit_0 : decode cX7_digit 0 = .ok (.aload_n 0, 1) := by decide +kernel
theorem dX7_digit_1 : decode cX7_digit 1 = .ok (.getfield 18, 3) := by decide +kernel
theorem dX7_digit_4 : decode cX7_digit 4 = .ok (.invokevirtual 53, 3) := by decide +kernel
theorem dX7_digit_7 : decode cX7_digit 7 = .ok (.ifCond .ne 12, 3) := by decide +kernel
theorem dX7_digit_10 : decode cX7_digit 10 = .ok (.aload_n 0, 1) := by decide +kernel
theorem dX7_digit_11 : decode cX7_digit 11 = .ok (.getfield 18, 3) := by decide +kernel
theorem dX7_digit_14 : decode cX7_digit 14 = .ok (.invokevirtual 72, 3) := by decide +kernel
theorem dX7_digit_17 : decode cX7_digit 17 = .ok (.iconst 0, 1) := by decide +kernel
theorem dX7_digit_18 : decode cX7_digit 18 = .ok (.ireturn, 1) := by decide +kernel
theorem dX7_digit_19 : decode cX7_digit 19 = .ok (.aload_n 0, 1) := by decide +kernel
theorem dX7_digit_20 : decode cX7_digit 20 = .ok (.getfield 18, 3) := by decide +kernel
theorem dX7_digit_23 : decode cX7_digit 23 = .ok (.getfield 86, 3) := by decide +kernel
theorem dX7_digit_26 : decode cX7_digit 26 = .ok (.bipush 48, 2) := by decide +kernel
theorem dX7_digit_28 : decode cX7_digit 28 = .ok (.isub, 1) := by decide +kernel
theorem dX7_digit_29 : decode cX7_digit 29 = .ok (.istore_n 1, 1) := by decide +kernel
theorem dX7_digit_30 : decode cX7_digit 30 = .ok (.aload_n 0, 1) := by decide +kernel
theorem dX7_digit_31 : decode cX7_digit 31 = .ok (.getfield 18, 3) := by decide +kernel
theorem dX7_digit_34 : decode cX7_digit 34 = .ok (.invokevirtual 75, 3) := by decide +kernel
theorem dX7_digit_37 : decode cX7_digit 37 = .ok (.iload_n 1, 1) := by decide +kernel
theorem dX7_digit_38 : decode cX7_digit 38 = .ok (.ireturn, 1) := by decide +kernel
theorem dX7_init_0 : decode cX7_init 0 = .ok (.aload_n 0, 1) := by decide +kernel
theorem dX7_init_1 : decode cX7_init 1 = .ok (.invokespecial 3, 3) := by decide +kernel
theorem dX7_init_4 : decode cX7_init 4 = .ok (.aload_n 0, 1) := by decide +kernel
theorem dX7_init_5 : decode cX7_init 5 = .ok (.new 9, 3) := by decide +kernel
theorem dX7_init_8 : decode cX7_init 8 = .ok (.dup, 1) := by decide +kernel
theorem dX7_init_9 : decode cX7_init 9 = .ok (.invokespecial 11, 3) := by decide +kernel
theorem dX7_init_12 : decode cX7_init 12 = .ok (.putfield 12, 3) := by decide +kernel
theorem dX7_init_15 : decode cX7_init 15 = .ok (.aload_n 0, 1) := by decide +kernel
theorem dX7_init_16 : decode cX7_init 16 = .ok (.aload_n 1, 1) := by decide +kernel
theorem dX7_init_17 : decode cX7_init 17 = .ok (.putfield 18, 3) := by decide +kernel
theorem dX7_init_20 : decode cX7_init 20 = .ok (.return_, 1) := by decide +kernel
theorem dX7_number_0 : decode cX7_number 0 = .ok (.aload_n 0, 1) := by decide +kernel
theorem dX7_number_1 : decode cX7_number 1 = .ok (.getfield 18, 3) := by decide +kernel
theorem dX7_number_4 : decode cX7_number 4 = .ok (.getfield 56, 3) := by decide +kernel
theorem dX7_number_7 : decode cX7_number 7 = .ok (.istore_n 3, 1) := by decide +kernel
theorem dX7_number_8 : decode cX7_number 8 = .ok (.aload_n 0, 1) := by decide +kernel
theorem dX7_number_9 : decode cX7_number 9 = .ok (.invokevirtual 78, 3) := by decide +kernel
theorem dX7_number_12 : decode cX7_number 12 = .ok (.istore 4, 2) := by decide +kernel
theorem dX7_number_14 : decode cX7_number 14 = .ok (.aload_n 0, 1) := by decide +kernel
theorem dX7_number_15 : decode cX7_number 15 = .ok (.getfield 18, 3) := by decide +kernel
theorem dX7_number_18 : decode cX7_number 18 = .ok (.invokevirtual 35, 3) := by decide +kernel
theorem dX7_number_21 : decode cX7_number 21 = .ok (.ifCond .eq 25, 3) := by decide +kernel
theorem dX7_number_24 : decode cX7_number 24 = .ok (.aload_n 0, 1) := by decide +kernel
theorem dX7_number_25 : decode cX7_number 25 = .ok (.getfield 18, 3) := by decide +kernel
theorem dX7_number_28 : decode cX7_number 28 = .ok (.invokevirtual 53, 3) := by decide +kernel
theorem dX7_number_31 : decode cX7_number 31 = .ok (.ifCond .eq 15, 3) := by decide +kernel
theorem dX7_number_34 : decode cX7_number 34 = .ok (.bipush 10, 2) := by decide +kernel
theorem dX7_number_36 : decode cX7_number 36 = .ok (.iload 4, 2) := by decide +kernel
theorem dX7_number_38 : decode cX7_number 38 = .ok (.imul, 1) := by decide +kernel
theorem dX7_number_39 : decode cX7_number 39 = .ok (.aload_n 0, 1) := by decide +kernel
theorem dX7_number_40 : decode cX7_number 40 = .ok (.invokevirtual 78, 3) := by decide +kernel
theorem dX7_number_43 : decode cX7_number 43 = .ok (.iadd, 1) := by decide +kernel
theorem dX7_number_44 : decode cX7_number 44 = .ok (.istore 4, 2) := by decide +kernel
theorem dX7_number_46 : decode cX7_number 46 = .ok (.iload 4, 2) := by decide +kernel
theorem dX7_number_48 : decode cX7_number 48 = .ok (.iload_n 1, 1) := by decide +kernel
theorem dX7_number_49 : decode cX7_number 49 = .ok (.if_icmp .lt 12, 3) := by decide +kernel
theorem dX7_number_52 : decode cX7_number 52 = .ok (.aload_n 0, 1) := by decide +kernel
theorem dX7_number_53 : decode cX7_number 53 = .ok (.getfield 18, 3) := by decide +kernel
theorem dX7_number_56 : decode cX7_number 56 = .ok (.iload_n 2, 1) := by decide +kernel
theorem dX7_number_57 : decode cX7_number 57 = .ok (.iload_n 3, 1) := by decide +kernel
theorem dX7_number_58 : decode cX7_number 58 = .ok (.invokevirtual 59, 3) := by decide +kernel
theorem dX7_number_61 : decode cX7_number 61 = .ok (.iload 4, 2) := by decide +kernel
theorem dX7_number_63 : decode cX7_number 63 = .ok (.ireturn, 1) := by decide +kernel
theorem dX7_readLine_0 : decode cX7_readLine 0 = .ok (.aload_n 0, 1) := by decide +kernel
theorem dX7_readLine_1 : decode cX7_readLine 1 = .ok (.getfield 18, 3) := by decide +kernel
theorem dX7_readLine_4 : decode cX7_readLine 4 = .ok (.invokevirtual 53, 3) := by decide +kernel
theorem dX7_readLine_7 : decode cX7_readLine 7 = .ok (.ifCond .eq 24, 3) := by decide +kernel
theorem dX7_readLine_10 : decode cX7_readLine 10 = .ok (.iload_n 1, 1) := by decide +kernel
theorem dX7_readLine_11 : decode cX7_readLine 11 = .ok (.bipush 20, 2) := by decide +kernel
theorem dX7_readLine_13 : decode cX7_readLine 13 = .ok (.if_icmp .ne 18, 3) := by decide +kernel
theorem dX7_readLine_16 : decode cX7_readLine 16 = .ok (.aload_n 0, 1) := by decide +kernel
theorem dX7_readLine_17 : decode cX7_readLine 17 = .ok (.getfield 18, 3) := by decide +kernel
theorem dX7_readLine_20 : decode cX7_readLine 20 = .ok (.iconst 4, 1) := by decide +kernel
theorem dX7_readLine_21 : decode cX7_readLine 21 = .ok (.aload_n 0, 1) := by decide +kernel
theorem dX7_readLine_22 : decode cX7_readLine 22 = .ok (.getfield 18, 3) := by decide +kernel
theorem dX7_readLine_25 : decode cX7_readLine 25 = .ok (.getfield 56, 3) := by decide +kernel
theorem dX7_readLine_28 : decode cX7_readLine 28 = .ok (.invokevirtual 59, 3) := by decide +kernel
theorem dX7_readLine_31 : decode cX7_readLine 31 = .ok (.aload_n 0, 1) := by decide +kernel
theorem dX7_readLine_32 : decode cX7_readLine 32 = .ok (.iload_n 2, 1) := by decide +kernel
theorem dX7_readLine_33 : decode cX7_readLine 33 = .ok (.iconst 3, 1) := by decide +kernel
theorem dX7_readLine_34 : decode cX7_readLine 34 = .ok (.invokevirtual 62, 3) := by decide +kernel
theorem dX7_readLine_37 : decode cX7_readLine 37 = .ok (.istore_n 3, 1) := by decide +kernel
theorem dX7_readLine_38 : decode cX7_readLine 38 = .ok (.aload_n 0, 1) := by decide +kernel
theorem dX7_readLine_39 : decode cX7_readLine 39 = .ok (.getfield 18, 3) := by decide +kernel
theorem dX7_readLine_42 : decode cX7_readLine 42 = .ok (.bipush 61, 2) := by decide +kernel
theorem dX7_readLine_44 : decode cX7_readLine 44 = .ok (.invokevirtual 46, 3) := by decide +kernel
theorem dX7_readLine_47 : decode cX7_readLine 47 = .ok (.aload_n 0, 1) := by decide +kernel
theorem dX7_readLine_48 : decode cX7_readLine 48 = .ok (.getfield 18, 3) := by decide +kernel
theorem dX7_readLine_51 : decode cX7_readLine 51 = .ok (.ldc 66, 2) := by decide +kernel
theorem dX7_readLine_53 : decode cX7_readLine 53 = .ok (.invokevirtual 68, 3) := by decide +kernel
theorem dX7_readLine_56 : decode cX7_readLine 56 = .ok (.istore 4, 2) := by decide +kernel
theorem dX7_readLine_58 : decode cX7_readLine 58 = .ok (.iload 4, 2) := by decide +kernel
theorem dX7_readLine_60 : decode cX7_readLine 60 = .ok (.ifCond .ge 10, 3) := by decide +kernel
theorem dX7_readLine_63 : decode cX7_readLine 63 = .ok (.aload_n 0, 1) := by decide +kernel
theorem dX7_readLine_64 : decode cX7_readLine 64 = .ok (.getfield 18, 3) := by decide +kernel
theorem dX7_readLine_67 : decode cX7_readLine 67 = .ok (.invokevirtual 72, 3) := by decide +kernel
theorem dX7_readLine_70 : decode cX7_readLine 70 = .ok (.aload_n 0, 1) := by decide +kernel
theorem dX7_readLine_71 : decode cX7_readLine 71 = .ok (.getfield 18, 3) := by decide +kernel
theorem dX7_readLine_74 : decode cX7_readLine 74 = .ok (.invokevirtual 75, 3) := by decide +kernel
theorem dX7_readLine_77 : decode cX7_readLine 77 = .ok (.iload 4, 2) := by decide +kernel
theorem dX7_readLine_79 : decode cX7_readLine 79 = .ok (.ifCond .ne 10, 3) := by decide +kernel
theorem dX7_readLine_82 : decode cX7_readLine 82 = .ok (.aload_n 0, 1) := by decide +kernel
theorem dX7_readLine_83 : decode cX7_readLine 83 = .ok (.invokevirtual 78, 3) := by decide +kernel
theorem dX7_readLine_86 : decode cX7_readLine 86 = .ok (.goto 10, 3) := by decide +kernel
theorem dX7_readLine_89 : decode cX7_readLine 89 = .ok (.aload_n 0, 1) := by decide +kernel
theorem dX7_readLine_90 : decode cX7_readLine 90 = .ok (.iload_n 1, 1) := by decide +kernel
theorem dX7_readLine_91 : decode cX7_readLine 91 = .ok (.bipush 6, 2) := by decide +kernel
theorem dX7_readLine_93 : decode cX7_readLine 93 = .ok (.invokevirtual 62, 3) := by decide +kernel
theorem dX7_readLine_96 : decode cX7_readLine 96 = .ok (.istore 5, 2) := by decide +kernel
theorem dX7_readLine_98 : decode cX7_readLine 98 = .ok (.bipush (-2), 2) := by decide +kernel
theorem dX7_readLine_100 : decode cX7_readLine 100 = .ok (.istore 6, 2) := by decide +kernel
theorem dX7_readLine_102 : decode cX7_readLine 102 = .ok (.iload 4, 2) := by decide +kernel
theorem dX7_readLine_104 : decode cX7_readLine 104 = .ok (.iconst 3, 1) := by decide +kernel
theorem dX7_readLine_105 : decode cX7_readLine 105 = .ok (.if_icmp .lt 21, 3) := by decide +kernel
theorem dX7_readLine_108 : decode cX7_readLine 108 = .ok (.aload_n 0, 1) := by decide +kernel
theorem dX7_readLine_109 : decode cX7_readLine 109 = .ok (.getfield 18, 3) := by decide +kernel
theorem dX7_readLine_112 : decode cX7_readLine 112 = .ok (.bipush 44, 2) := by decide +kernel
theorem dX7_readLine_114 : decode cX7_readLine 114 = .ok (.invokevirtual 46, 3) := by decide +kernel
theorem dX7_readLine_117 : decode cX7_readLine 117 = .ok (.aload_n 0, 1) := by decide +kernel
theorem dX7_readLine_118 : decode cX7_readLine 118 = .ok (.iload_n 1, 1) := by decide +kernel
theorem dX7_readLine_119 : decode cX7_readLine 119 = .ok (.bipush 6, 2) := by decide +kernel
theorem dX7_readLine_121 : decode cX7_readLine 121 = .ok (.invokevirtual 62, 3) := by decide +kernel
theorem dX7_readLine_124 : decode cX7_readLine 124 = .ok (.istore 6, 2) := by decide +kernel
theorem dX7_readLine_126 : decode cX7_readLine 126 = .ok (.aload_n 0, 1) := by decide +kernel
theorem dX7_readLine_127 : decode cX7_readLine 127 = .ok (.getfield 18, 3) := by decide +kernel
theorem dX7_readLine_130 : decode cX7_readLine 130 = .ok (.invokevirtual 35, 3) := by decide +kernel
theorem dX7_readLine_133 : decode cX7_readLine 133 = .ok (.ifCond .eq 17, 3) := by decide +kernel
theorem dX7_readLine_136 : decode cX7_readLine 136 = .ok (.aload_n 0, 1) := by decide +kernel
theorem dX7_readLine_137 : decode cX7_readLine 137 = .ok (.getfield 12, 3) := by decide +kernel
theorem dX7_readLine_140 : decode cX7_readLine 140 = .ok (.iload_n 3, 1) := by decide +kernel
theorem dX7_readLine_141 : decode cX7_readLine 141 = .ok (.iload 4, 2) := by decide +kernel
theorem dX7_readLine_143 : decode cX7_readLine 143 = .ok (.iload 5, 2) := by decide +kernel
theorem dX7_readLine_145 : decode cX7_readLine 145 = .ok (.iload 6, 2) := by decide +kernel
theorem dX7_readLine_147 : decode cX7_readLine 147 = .ok (.invokevirtual 82, 3) := by decide +kernel
theorem dX7_readLine_150 : decode cX7_readLine 150 = .ok (.return_, 1) := by decide +kernel
theorem dX7_readProof_0 : decode cX7_readProof 0 = .ok (.aload_n 0, 1) := by decide +kernel
theorem dX7_readProof_1 : decode cX7_readProof 1 = .ok (.getfield 18, 3) := by decide +kernel
theorem dX7_readProof_4 : decode cX7_readProof 4 = .ok (.iload_n 1, 1) := by decide +kernel
theorem dX7_readProof_5 : decode cX7_readProof 5 = .ok (.invokevirtual 22, 3) := by decide +kernel
theorem dX7_readProof_8 : decode cX7_readProof 8 = .ok (.aload_n 0, 1) := by decide +kernel
theorem dX7_readProof_9 : decode cX7_readProof 9 = .ok (.getfield 12, 3) := by decide +kernel
theorem dX7_readProof_12 : decode cX7_readProof 12 = .ok (.invokevirtual 28, 3) := by decide +kernel
theorem dX7_readProof_15 : decode cX7_readProof 15 = .ok (.iconst 0, 1) := by decide +kernel
theorem dX7_readProof_16 : decode cX7_readProof 16 = .ok (.istore_n 3, 1) := by decide +kernel
theorem dX7_readProof_17 : decode cX7_readProof 17 = .ok (.iload_n 3, 1) := by decide +kernel
theorem dX7_readProof_18 : decode cX7_readProof 18 = .ok (.bipush 20, 2) := by decide +kernel
theorem dX7_readProof_20 : decode cX7_readProof 20 = .ok (.if_icmp .gt 71, 3) := by decide +kernel
theorem dX7_readProof_23 : decode cX7_readProof 23 = .ok (.aload_n 0, 1) := by decide +kernel
theorem dX7_readProof_24 : decode cX7_readProof 24 = .ok (.iload_n 3, 1) := by decide +kernel
theorem dX7_readProof_25 : decode cX7_readProof 25 = .ok (.iload_n 2, 1) := by decide +kernel
theorem dX7_readProof_26 : decode cX7_readProof 26 = .ok (.invokevirtual 31, 3) := by decide +kernel
theorem dX7_readProof_29 : decode cX7_readProof 29 = .ok (.aload_n 0, 1) := by decide +kernel
theorem dX7_readProof_30 : decode cX7_readProof 30 = .ok (.getfield 18, 3) := by decide +kernel
theorem dX7_readProof_33 : decode cX7_readProof 33 = .ok (.invokevirtual 35, 3) := by decide +kernel
theorem dX7_readProof_36 : decode cX7_readProof 36 = .ok (.ifCond .eq 21, 3) := by decide +kernel
theorem dX7_readProof_39 : decode cX7_readProof 39 = .ok (.aload_n 0, 1) := by decide +kernel
theorem dX7_readProof_40 : decode cX7_readProof 40 = .ok (.getfield 18, 3) := by decide +kernel
theorem dX7_readProof_43 : decode cX7_readProof 43 = .ok (.invokevirtual 39, 3) := by decide +kernel
theorem dX7_readProof_46 : decode cX7_readProof 46 = .ok (.ifCond .eq 11, 3) := by decide +kernel
theorem dX7_readProof_49 : decode cX7_readProof 49 = .ok (.aload_n 0, 1) := by decide +kernel
theorem dX7_readProof_50 : decode cX7_readProof 50 = .ok (.getfield 12, 3) := by decide +kernel
theorem dX7_readProof_53 : decode cX7_readProof 53 = .ok (.getfield 42, 3) := by decide +kernel
theorem dX7_readProof_56 : decode cX7_readProof 56 = .ok (.ireturn, 1) := by decide +kernel
theorem dX7_readProof_57 : decode cX7_readProof 57 = .ok (.aload_n 0, 1) := by decide +kernel
theorem dX7_readProof_58 : decode cX7_readProof 58 = .ok (.getfield 18, 3) := by decide +kernel
theorem dX7_readProof_61 : decode cX7_readProof 61 = .ok (.bipush 59, 2) := by decide +kernel
theorem dX7_readProof_63 : decode cX7_readProof 63 = .ok (.invokevirtual 46, 3) := by decide +kernel
theorem dX7_readProof_66 : decode cX7_readProof 66 = .ok (.aload_n 0, 1) := by decide +kernel
theorem dX7_readProof_67 : decode cX7_readProof 67 = .ok (.getfield 18, 3) := by decide +kernel
theorem dX7_readProof_70 : decode cX7_readProof 70 = .ok (.invokevirtual 35, 3) := by decide +kernel
theorem dX7_readProof_73 : decode cX7_readProof 73 = .ok (.ifCond .ne 12, 3) := by decide +kernel
theorem dX7_readProof_76 : decode cX7_readProof 76 = .ok (.aload_n 0, 1) := by decide +kernel
theorem dX7_readProof_77 : decode cX7_readProof 77 = .ok (.getfield 18, 3) := by decide +kernel
theorem dX7_readProof_80 : decode cX7_readProof 80 = .ok (.getfield 50, 3) := by decide +kernel
theorem dX7_readProof_83 : decode cX7_readProof 83 = .ok (.ineg, 1) := by decide +kernel
theorem dX7_readProof_84 : decode cX7_readProof 84 = .ok (.ireturn, 1) := by decide +kernel
theorem dX7_readProof_85 : decode cX7_readProof 85 = .ok (.iinc 3 1, 3) := by decide +kernel
theorem dX7_readProof_88 : decode cX7_readProof 88 = .ok (.goto (-71), 3) := by decide +kernel
theorem dX7_readProof_91 : decode cX7_readProof 91 = .ok (.aload_n 0, 1) := by decide +kernel
theorem dX7_readProof_92 : decode cX7_readProof 92 = .ok (.getfield 18, 3) := by decide +kernel
theorem dX7_readProof_95 : decode cX7_readProof 95 = .ok (.getfield 50, 3) := by decide +kernel
theorem dX7_readProof_98 : decode cX7_readProof 98 = .ok (.ineg, 1) := by decide +kernel
theorem dX7_readProof_99 : decode cX7_readProof 99 = .ok (.ireturn, 1) := by decide +kernel
theorem dX8_init_0 : decode cX8_init 0 = .ok (.aload_n 0, 1) := by decide +kernel
theorem dX8_init_1 : decode cX8_init 1 = .ok (.invokespecial 3, 3) := by decide +kernel
theorem dX8_init_4 : decode cX8_init 4 = .ok (.aload_n 0, 1) := by decide +kernel
theorem dX8_init_5 : decode cX8_init 5 = .ok (.bipush 20, 2) := by decide +kernel
theorem dX8_init_7 : decode cX8_init 7 = .ok (.newarray .int, 2) := by decide +kernel
theorem dX8_init_9 : decode cX8_init 9 = .ok (.putfield 9, 3) := by decide +kernel
theorem dX8_init_12 : decode cX8_init 12 = .ok (.aload_n 0, 1) := by decide +kernel
theorem dX8_init_13 : decode cX8_init 13 = .ok (.bipush 20, 2) := by decide +kernel
theorem dX8_init_15 : decode cX8_init 15 = .ok (.newarray .int, 2) := by decide +kernel
theorem dX8_init_17 : decode cX8_init 17 = .ok (.putfield 15, 3) := by decide +kernel
theorem dX8_init_20 : decode cX8_init 20 = .ok (.aload_n 0, 1) := by decide +kernel
theorem dX8_init_21 : decode cX8_init 21 = .ok (.bipush 20, 2) := by decide +kernel
theorem dX8_init_23 : decode cX8_init 23 = .ok (.newarray .int, 2) := by decide +kernel
theorem dX8_init_25 : decode cX8_init 25 = .ok (.putfield 18, 3) := by decide +kernel
theorem dX8_init_28 : decode cX8_init 28 = .ok (.aload_n 0, 1) := by decide +kernel
theorem dX8_init_29 : decode cX8_init 29 = .ok (.lconst 0, 1) := by decide +kernel
theorem dX8_init_30 : decode cX8_init 30 = .ok (.putfield 21, 3) := by decide +kernel
theorem dX8_init_33 : decode cX8_init 33 = .ok (.aload_n 0, 1) := by decide +kernel
theorem dX8_init_34 : decode cX8_init 34 = .ok (.lconst 1, 1) := by decide +kernel
theorem dX8_init_35 : decode cX8_init 35 = .ok (.putfield 25, 3) := by decide +kernel
theorem dX8_init_38 : decode cX8_init 38 = .ok (.return_, 1) := by decide +kernel
theorem dX8_isToWait_0 : decode cX8_isToWait 0 = .ok (.iconst 0, 1) := by decide +kernel
theorem dX8_isToWait_1 : decode cX8_isToWait 1 = .ok (.istore 4, 2) := by decide +kernel
theorem dX8_isToWait_3 : decode cX8_isToWait 3 = .ok (.iload 4, 2) := by decide +kernel
theorem dX8_isToWait_5 : decode cX8_isToWait 5 = .ok (.iload_n 3, 1) := by decide +kernel
theorem dX8_isToWait_6 : decode cX8_isToWait 6 = .ok (.if_icmp .ge 59, 3) := by decide +kernel
theorem dX8_isToWait_9 : decode cX8_isToWait 9 = .ok (.iload_n 2, 1) := by decide +kernel
theorem dX8_isToWait_10 : decode cX8_isToWait 10 = .ok (.iload 4, 2) := by decide +kernel
theorem dX8_isToWait_12 : decode cX8_isToWait 12 = .ok (.invokestatic 47, 3) := by decide +kernel
theorem dX8_isToWait_15 : decode cX8_isToWait 15 = .ok (.ifCond .eq 44, 3) := by decide +kernel
theorem dX8_isToWait_18 : decode cX8_isToWait 18 = .ok (.aload_n 0, 1) := by decide +kernel
theorem dX8_isToWait_19 : decode cX8_isToWait 19 = .ok (.getfield 9, 3) := by decide +kernel
theorem dX8_isToWait_22 : decode cX8_isToWait 22 = .ok (.iload 4, 2) := by decide +kernel
theorem dX8_isToWait_24 : decode cX8_isToWait 24 = .ok (.invokestatic 40, 3) := by decide +kernel
theorem dX8_isToWait_27 : decode cX8_isToWait 27 = .ok (.aload_n 0, 1) := by decide +kernel
theorem dX8_isToWait_28 : decode cX8_isToWait 28 = .ok (.getfield 15, 3) := by decide +kernel
theorem dX8_isToWait_31 : decode cX8_isToWait 31 = .ok (.iload_n 1, 1) := by decide +kernel
theorem dX8_isToWait_32 : decode cX8_isToWait 32 = .ok (.invokestatic 40, 3) := by decide +kernel
theorem dX8_isToWait_35 : decode cX8_isToWait 35 = .ok (.imul, 1) := by decide +kernel
theorem dX8_isToWait_36 : decode cX8_isToWait 36 = .ok (.aload_n 0, 1) := by decide +kernel
theorem dX8_isToWait_37 : decode cX8_isToWait 37 = .ok (.getfield 9, 3) := by decide +kernel
theorem dX8_isToWait_40 : decode cX8_isToWait 40 = .ok (.iload_n 1, 1) := by decide +kernel
theorem dX8_isToWait_41 : decode cX8_isToWait 41 = .ok (.invokestatic 40, 3) := by decide +kernel
theorem dX8_isToWait_44 : decode cX8_isToWait 44 = .ok (.aload_n 0, 1) := by decide +kernel
theorem dX8_isToWait_45 : decode cX8_isToWait 45 = .ok (.getfield 15, 3) := by decide +kernel
theorem dX8_isToWait_48 : decode cX8_isToWait 48 = .ok (.iload 4, 2) := by decide +kernel
theorem dX8_isToWait_50 : decode cX8_isToWait 50 = .ok (.invokestatic 40, 3) := by decide +kernel
theorem dX8_isToWait_53 : decode cX8_isToWait 53 = .ok (.imul, 1) := by decide +kernel
theorem dX8_isToWait_54 : decode cX8_isToWait 54 = .ok (.if_icmp .ge 5, 3) := by decide +kernel
theorem dX8_isToWait_57 : decode cX8_isToWait 57 = .ok (.iconst 1, 1) := by decide +kernel
theorem dX8_isToWait_58 : decode cX8_isToWait 58 = .ok (.ireturn, 1) := by decide +kernel
theorem dX8_isToWait_59 : decode cX8_isToWait 59 = .ok (.iinc 4 1, 3) := by decide +kernel
theorem dX8_isToWait_62 : decode cX8_isToWait 62 = .ok (.goto (-59), 3) := by decide +kernel
theorem dX8_isToWait_65 : decode cX8_isToWait 65 = .ok (.iconst 0, 1) := by decide +kernel
theorem dX8_isToWait_66 : decode cX8_isToWait 66 = .ok (.ireturn, 1) := by decide +kernel
theorem dX8_lowestThatMayBeNext_0 : decode cX8_lowestThatMayBeNext 0 = .ok (.iconst 0, 1) := by decide +kernel
theorem dX8_lowestThatMayBeNext_1 : decode cX8_lowestThatMayBeNext 1 = .ok (.istore_n 3, 1) := by decide +kernel
theorem dX8_lowestThatMayBeNext_2 : decode cX8_lowestThatMayBeNext 2 = .ok (.iload_n 3, 1) := by decide +kernel
theorem dX8_lowestThatMayBeNext_3 : decode cX8_lowestThatMayBeNext 3 = .ok (.iload_n 2, 1) := by decide +kernel
theorem dX8_lowestThatMayBeNext_4 : decode cX8_lowestThatMayBeNext 4 = .ok (.if_icmp .ge 29, 3) := by decide +kernel
theorem dX8_lowestThatMayBeNext_7 : decode cX8_lowestThatMayBeNext 7 = .ok (.iload_n 1, 1) := by decide +kernel
theorem dX8_lowestThatMayBeNext_8 : decode cX8_lowestThatMayBeNext 8 = .ok (.iload_n 3, 1) := by decide +kernel
theorem dX8_lowestThatMayBeNext_9 : decode cX8_lowestThatMayBeNext 9 = .ok (.invokestatic 47, 3) := by decide +kernel
theorem dX8_lowestThatMayBeNext_12 : decode cX8_lowestThatMayBeNext 12 = .ok (.ifCond .eq 15, 3) := by decide +kernel
theorem dX8_lowestThatMayBeNext_15 : decode cX8_lowestThatMayBeNext 15 = .ok (.aload_n 0, 1) := by decide +kernel
theorem dX8_lowestThatMayBeNext_16 : decode cX8_lowestThatMayBeNext 16 = .ok (.iload_n 3, 1) := by decide +kernel
theorem dX8_lowestThatMayBeNext_17 : decode cX8_lowestThatMayBeNext 17 = .ok (.iload_n 1, 1) := by decide +kernel
theorem dX8_lowestThatMayBeNext_18 : decode cX8_lowestThatMayBeNext 18 = .ok (.iload_n 2, 1) := by decide +kernel
theorem dX8_lowestThatMayBeNext_19 : decode cX8_lowestThatMayBeNext 19 = .ok (.invokevirtual 51, 3) := by decide +kernel
theorem dX8_lowestThatMayBeNext_22 : decode cX8_lowestThatMayBeNext 22 = .ok (.ifCond .ne 5, 3) := by decide +kernel
theorem dX8_lowestThatMayBeNext_25 : decode cX8_lowestThatMayBeNext 25 = .ok (.iload_n 3, 1) := by decide +kernel
theorem dX8_lowestThatMayBeNext_26 : decode cX8_lowestThatMayBeNext 26 = .ok (.ireturn, 1) := by decide +kernel
theorem dX8_lowestThatMayBeNext_27 : decode cX8_lowestThatMayBeNext 27 = .ok (.iinc 3 1, 3) := by decide +kernel
theorem dX8_lowestThatMayBeNext_30 : decode cX8_lowestThatMayBeNext 30 = .ok (.goto (-28), 3) := by decide +kernel
theorem dX8_lowestThatMayBeNext_33 : decode cX8_lowestThatMayBeNext 33 = .ok (.iload_n 1, 1) := by decide +kernel
theorem dX8_lowestThatMayBeNext_34 : decode cX8_lowestThatMayBeNext 34 = .ok (.invokestatic 55, 3) := by decide +kernel
theorem dX8_lowestThatMayBeNext_37 : decode cX8_lowestThatMayBeNext 37 = .ok (.ireturn, 1) := by decide +kernel
theorem dX8_rank_0 : decode cX8_rank 0 = .ok (.iload_n 1, 1) := by decide +kernel
theorem dX8_rank_1 : decode cX8_rank 1 = .ok (.invokestatic 28, 3) := by decide +kernel
theorem dX8_rank_4 : decode cX8_rank 4 = .ok (.iconst 1, 1) := by decide +kernel
theorem dX8_rank_5 : decode cX8_rank 5 = .ok (.isub, 1) := by decide +kernel
theorem dX8_rank_6 : decode cX8_rank 6 = .ok (.istore_n 2, 1) := by decide +kernel
theorem dX8_rank_7 : decode cX8_rank 7 = .ok (.lconst 0, 1) := by decide +kernel
theorem dX8_rank_8 : decode cX8_rank 8 = .ok (.lstore_n 3, 1) := by decide +kernel
theorem dX8_rank_9 : decode cX8_rank 9 = .ok (.aload_n 0, 1) := by decide +kernel
theorem dX8_rank_10 : decode cX8_rank 10 = .ok (.lconst 0, 1) := by decide +kernel
theorem dX8_rank_11 : decode cX8_rank 11 = .ok (.putfield 21, 3) := by decide +kernel
theorem dX8_rank_14 : decode cX8_rank 14 = .ok (.aload_n 0, 1) := by decide +kernel
theorem dX8_rank_15 : decode cX8_rank 15 = .ok (.lconst 0, 1) := by decide +kernel
theorem dX8_rank_16 : decode cX8_rank 16 = .ok (.putfield 25, 3) := by decide +kernel
theorem dX8_rank_19 : decode cX8_rank 19 = .ok (.iconst 0, 1) := by decide +kernel
theorem dX8_rank_20 : decode cX8_rank 20 = .ok (.istore 5, 2) := by decide +kernel
theorem dX8_rank_22 : decode cX8_rank 22 = .ok (.iload 5, 2) := by decide +kernel
theorem dX8_rank_24 : decode cX8_rank 24 = .ok (.iload_n 1, 1) := by decide +kernel
theorem dX8_rank_25 : decode cX8_rank 25 = .ok (.if_icmp .ge 91, 3) := by decide +kernel
theorem dX8_rank_28 : decode cX8_rank 28 = .ok (.aload_n 0, 1) := by decide +kernel
theorem dX8_rank_29 : decode cX8_rank 29 = .ok (.iload_n 2, 1) := by decide +kernel
theorem dX8_rank_30 : decode cX8_rank 30 = .ok (.iload_n 1, 1) := by decide +kernel
theorem dX8_rank_31 : decode cX8_rank 31 = .ok (.invokevirtual 32, 3) := by decide +kernel
theorem dX8_rank_34 : decode cX8_rank 34 = .ok (.istore 6, 2) := by decide +kernel
theorem dX8_rank_36 : decode cX8_rank 36 = .ok (.iload_n 2, 1) := by decide +kernel
theorem dX8_rank_37 : decode cX8_rank 37 = .ok (.iload 6, 2) := by decide +kernel
theorem dX8_rank_39 : decode cX8_rank 39 = .ok (.invokestatic 28, 3) := by decide +kernel
theorem dX8_rank_42 : decode cX8_rank 42 = .ok (.iconst (-1), 1) := by decide +kernel
theorem dX8_rank_43 : decode cX8_rank 43 = .ok (.ixor, 1) := by decide +kernel
theorem dX8_rank_44 : decode cX8_rank 44 = .ok (.iand, 1) := by decide +kernel
theorem dX8_rank_45 : decode cX8_rank 45 = .ok (.istore_n 2, 1) := by decide +kernel
theorem dX8_rank_46 : decode cX8_rank 46 = .ok (.aload_n 0, 1) := by decide +kernel
theorem dX8_rank_47 : decode cX8_rank 47 = .ok (.getfield 18, 3) := by decide +kernel
theorem dX8_rank_50 : decode cX8_rank 50 = .ok (.iload 5, 2) := by decide +kernel
theorem dX8_rank_52 : decode cX8_rank 52 = .ok (.iload 6, 2) := by decide +kernel
theorem dX8_rank_54 : decode cX8_rank 54 = .ok (.invokestatic 36, 3) := by decide +kernel
theorem dX8_rank_57 : decode cX8_rank 57 = .ok (.lload_n 3, 1) := by decide +kernel
theorem dX8_rank_58 : decode cX8_rank 58 = .ok (.aload_n 0, 1) := by decide +kernel
theorem dX8_rank_59 : decode cX8_rank 59 = .ok (.getfield 9, 3) := by decide +kernel
theorem dX8_rank_62 : decode cX8_rank 62 = .ok (.iload 6, 2) := by decide +kernel
theorem dX8_rank_64 : decode cX8_rank 64 = .ok (.invokestatic 40, 3) := by decide +kernel
theorem dX8_rank_67 : decode cX8_rank 67 = .ok (.i2l, 1) := by decide +kernel
theorem dX8_rank_68 : decode cX8_rank 68 = .ok (.ladd, 1) := by decide +kernel
theorem dX8_rank_69 : decode cX8_rank 69 = .ok (.lstore_n 3, 1) := by decide +kernel
theorem dX8_rank_70 : decode cX8_rank 70 = .ok (.aload_n 0, 1) := by decide +kernel
theorem dX8_rank_71 : decode cX8_rank 71 = .ok (.dup, 1) := by decide +kernel
theorem dX8_rank_72 : decode cX8_rank 72 = .ok (.getfield 21, 3) := by decide +kernel
theorem dX8_rank_75 : decode cX8_rank 75 = .ok (.lload_n 3, 1) := by decide +kernel
theorem dX8_rank_76 : decode cX8_rank 76 = .ok (.aload_n 0, 1) := by decide +kernel
theorem dX8_rank_77 : decode cX8_rank 77 = .ok (.getfield 15, 3) := by decide +kernel
theorem dX8_rank_80 : decode cX8_rank 80 = .ok (.iload 6, 2) := by decide +kernel
theorem dX8_rank_82 : decode cX8_rank 82 = .ok (.invokestatic 40, 3) := by decide +kernel
theorem dX8_rank_85 : decode cX8_rank 85 = .ok (.i2l, 1) := by decide +kernel
theorem dX8_rank_86 : decode cX8_rank 86 = .ok (.lmul, 1) := by decide +kernel
theorem dX8_rank_87 : decode cX8_rank 87 = .ok (.ladd, 1) := by decide +kernel
theorem dX8_rank_88 : decode cX8_rank 88 = .ok (.putfield 21, 3) := by decide +kernel
theorem dX8_rank_91 : decode cX8_rank 91 = .ok (.aload_n 0, 1) := by decide +kernel
theorem dX8_rank_92 : decode cX8_rank 92 = .ok (.dup, 1) := by decide +kernel
theorem dX8_rank_93 : decode cX8_rank 93 = .ok (.getfield 25, 3) := by decide +kernel
theorem dX8_rank_96 : decode cX8_rank 96 = .ok (.aload_n 0, 1) := by decide +kernel
theorem dX8_rank_97 : decode cX8_rank 97 = .ok (.getfield 15, 3) := by decide +kernel
theorem dX8_rank_100 : decode cX8_rank 100 = .ok (.iload 6, 2) := by decide +kernel
theorem dX8_rank_102 : decode cX8_rank 102 = .ok (.invokestatic 40, 3) := by decide +kernel
theorem dX8_rank_105 : decode cX8_rank 105 = .ok (.i2l, 1) := by decide +kernel
theorem dX8_rank_106 : decode cX8_rank 106 = .ok (.ladd, 1) := by decide +kernel
theorem dX8_rank_107 : decode cX8_rank 107 = .ok (.putfield 25, 3) := by decide +kernel
theorem dX8_rank_110 : decode cX8_rank 110 = .ok (.iinc 5 1, 3) := by decide +kernel
theorem dX8_rank_113 : decode cX8_rank 113 = .ok (.goto (-91), 3) := by decide +kernel
theorem dX8_rank_116 : decode cX8_rank 116 = .ok (.aload_n 0, 1) := by decide +kernel
theorem dX8_rank_117 : decode cX8_rank 117 = .ok (.invokevirtual 44, 3) := by decide +kernel
theorem dX8_rank_120 : decode cX8_rank 120 = .ok (.return_, 1) := by decide +kernel
theorem dX8_shorten_0 : decode cX8_shorten 0 = .ok (.aload_n 0, 1) := by decide +kernel
theorem dX8_shorten_1 : decode cX8_shorten 1 = .ok (.getfield 21, 3) := by decide +kernel
theorem dX8_shorten_4 : decode cX8_shorten 4 = .ok (.lstore_n 1, 1) := by decide +kernel
theorem dX8_shorten_5 : decode cX8_shorten 5 = .ok (.aload_n 0, 1) := by decide +kernel
theorem dX8_shorten_6 : decode cX8_shorten 6 = .ok (.getfield 25, 3) := by decide +kernel
theorem dX8_shorten_9 : decode cX8_shorten 9 = .ok (.lstore_n 3, 1) := by decide +kernel
theorem dX8_shorten_10 : decode cX8_shorten 10 = .ok (.iconst 0, 1) := by decide +kernel
theorem dX8_shorten_11 : decode cX8_shorten 11 = .ok (.istore 5, 2) := by decide +kernel
theorem dX8_shorten_13 : decode cX8_shorten 13 = .ok (.iload 5, 2) := by decide +kernel
theorem dX8_shorten_15 : decode cX8_shorten 15 = .ok (.bipush 100, 2) := by decide +kernel
theorem dX8_shorten_17 : decode cX8_shorten 17 = .ok (.if_icmp .ge 25, 3) := by decide +kernel
theorem dX8_shorten_20 : decode cX8_shorten 20 = .ok (.lload_n 3, 1) := by decide +kernel
theorem dX8_shorten_21 : decode cX8_shorten 21 = .ok (.lconst 0, 1) := by decide +kernel
theorem dX8_shorten_22 : decode cX8_shorten 22 = .ok (.lcmp, 1) := by decide +kernel
theorem dX8_shorten_23 : decode cX8_shorten 23 = .ok (.ifCond .eq 19, 3) := by decide +kernel
theorem dX8_shorten_26 : decode cX8_shorten 26 = .ok (.lload_n 1, 1) := by decide +kernel
theorem dX8_shorten_27 : decode cX8_shorten 27 = .ok (.lload_n 3, 1) := by decide +kernel
theorem dX8_shorten_28 : decode cX8_shorten 28 = .ok (.lrem, 1) := by decide +kernel
theorem dX8_shorten_29 : decode cX8_shorten 29 = .ok (.lstore 6, 2) := by decide +kernel
theorem dX8_shorten_31 : decode cX8_shorten 31 = .ok (.lload_n 3, 1) := by decide +kernel
theorem dX8_shorten_32 : decode cX8_shorten 32 = .ok (.lstore_n 1, 1) := by decide +kernel
theorem dX8_shorten_33 : decode cX8_shorten 33 = .ok (.lload 6, 2) := by decide +kernel
theorem dX8_shorten_35 : decode cX8_shorten 35 = .ok (.lstore_n 3, 1) := by decide +kernel
theorem dX8_shorten_36 : decode cX8_shorten 36 = .ok (.iinc 5 1, 3) := by decide +kernel
theorem dX8_shorten_39 : decode cX8_shorten 39 = .ok (.goto (-26), 3) := by decide +kernel
theorem dX8_shorten_42 : decode cX8_shorten 42 = .ok (.aload_n 0, 1) := by decide +kernel
theorem dX8_shorten_43 : decode cX8_shorten 43 = .ok (.getfield 25, 3) := by decide +kernel
theorem dX8_shorten_46 : decode cX8_shorten 46 = .ok (.lconst 0, 1) := by decide +kernel
theorem dX8_shorten_47 : decode cX8_shorten 47 = .ok (.lcmp, 1) := by decide +kernel
theorem dX8_shorten_48 : decode cX8_shorten 48 = .ok (.ifCond .ne 11, 3) := by decide +kernel
theorem dX8_shorten_51 : decode cX8_shorten 51 = .ok (.aload_n 0, 1) := by decide +kernel
theorem dX8_shorten_52 : decode cX8_shorten 52 = .ok (.lconst 1, 1) := by decide +kernel
theorem dX8_shorten_53 : decode cX8_shorten 53 = .ok (.putfield 25, 3) := by decide +kernel
theorem dX8_shorten_56 : decode cX8_shorten 56 = .ok (.goto 29, 3) := by decide +kernel
theorem dX8_shorten_59 : decode cX8_shorten 59 = .ok (.lload_n 1, 1) := by decide +kernel
theorem dX8_shorten_60 : decode cX8_shorten 60 = .ok (.lconst 0, 1) := by decide +kernel
theorem dX8_shorten_61 : decode cX8_shorten 61 = .ok (.lcmp, 1) := by decide +kernel
theorem dX8_shorten_62 : decode cX8_shorten 62 = .ok (.ifCond .le 23, 3) := by decide +kernel
theorem dX8_shorten_65 : decode cX8_shorten 65 = .ok (.aload_n 0, 1) := by decide +kernel
theorem dX8_shorten_66 : decode cX8_shorten 66 = .ok (.dup, 1) := by decide +kernel
theorem dX8_shorten_67 : decode cX8_shorten 67 = .ok (.getfield 21, 3) := by decide +kernel
theorem dX8_shorten_70 : decode cX8_shorten 70 = .ok (.lload_n 1, 1) := by decide +kernel
theorem dX8_shorten_71 : decode cX8_shorten 71 = .ok (.ldiv, 1) := by decide +kernel
theorem dX8_shorten_72 : decode cX8_shorten 72 = .ok (.putfield 21, 3) := by decide +kernel
theorem dX8_shorten_75 : decode cX8_shorten 75 = .ok (.aload_n 0, 1) := by decide +kernel
theorem dX8_shorten_76 : decode cX8_shorten 76 = .ok (.dup, 1) := by decide +kernel
theorem dX8_shorten_77 : decode cX8_shorten 77 = .ok (.getfield 25, 3) := by decide +kernel
theorem dX8_shorten_80 : decode cX8_shorten 80 = .ok (.lload_n 1, 1) := by decide +kernel
theorem dX8_shorten_81 : decode cX8_shorten 81 = .ok (.ldiv, 1) := by decide +kernel
theorem dX8_shorten_82 : decode cX8_shorten 82 = .ok (.putfield 25, 3) := by decide +kernel
theorem dX8_shorten_85 : decode cX8_shorten 85 = .ok (.return_, 1) := by decide +kernel
theorem dX9_become_0 : decode cX9_become 0 = .ok (.aload_n 0, 1) := by decide +kernel
theorem dX9_become_1 : decode cX9_become 1 = .ok (.aload_n 1, 1) := by decide +kernel
theorem dX9_become_2 : decode cX9_become 2 = .ok (.getfield 9, 3) := by decide +kernel
theorem dX9_become_5 : decode cX9_become 5 = .ok (.putfield 9, 3) := by decide +kernel
theorem dX9_become_8 : decode cX9_become 8 = .ok (.aload_n 0, 1) := by decide +kernel
theorem dX9_become_9 : decode cX9_become 9 = .ok (.aload_n 1, 1) := by decide +kernel
theorem dX9_become_10 : decode cX9_become 10 = .ok (.getfield 15, 3) := by decide +kernel
theorem dX9_become_13 : decode cX9_become 13 = .ok (.putfield 15, 3) := by decide +kernel
theorem dX9_become_16 : decode cX9_become 16 = .ok (.aload_n 1, 1) := by decide +kernel
theorem dX9_become_17 : decode cX9_become 17 = .ok (.getfield 18, 3) := by decide +kernel
theorem dX9_become_20 : decode cX9_become 20 = .ok (.aload_n 0, 1) := by decide +kernel
theorem dX9_become_21 : decode cX9_become 21 = .ok (.getfield 18, 3) := by decide +kernel
theorem dX9_become_24 : decode cX9_become 24 = .ok (.invokestatic 32, 3) := by decide +kernel
theorem dX9_become_27 : decode cX9_become 27 = .ok (.aload_n 1, 1) := by decide +kernel
theorem dX9_become_28 : decode cX9_become 28 = .ok (.getfield 22, 3) := by decide +kernel
theorem dX9_become_31 : decode cX9_become 31 = .ok (.aload_n 0, 1) := by decide +kernel
theorem dX9_become_32 : decode cX9_become 32 = .ok (.getfield 22, 3) := by decide +kernel
theorem dX9_become_35 : decode cX9_become 35 = .ok (.invokestatic 32, 3) := by decide +kernel
theorem dX9_become_38 : decode cX9_become 38 = .ok (.aload_n 0, 1) := by decide +kernel
theorem dX9_become_39 : decode cX9_become 39 = .ok (.getfield 28, 3) := by decide +kernel
theorem dX9_become_42 : decode cX9_become 42 = .ok (.aload_n 1, 1) := by decide +kernel
theorem dX9_become_43 : decode cX9_become 43 = .ok (.getfield 28, 3) := by decide +kernel
theorem dX9_become_46 : decode cX9_become 46 = .ok (.invokevirtual 36, 3) := by decide +kernel
theorem dX9_become_49 : decode cX9_become 49 = .ok (.return_, 1) := by decide +kernel
theorem dX9_claimOf_0 : decode cX9_claimOf 0 = .ok (.aload_n 0, 1) := by decide +kernel
theorem dX9_claimOf_1 : decode cX9_claimOf 1 = .ok (.getfield 28, 3) := by decide +kernel
theorem dX9_claimOf_4 : decode cX9_claimOf 4 = .ok (.getfield 56, 3) := by decide +kernel
theorem dX9_claimOf_7 : decode cX9_claimOf 7 = .ok (.iload_n 1, 1) := by decide +kernel
theorem dX9_claimOf_8 : decode cX9_claimOf 8 = .ok (.invokestatic 43, 3) := by decide +kernel
theorem dX9_claimOf_11 : decode cX9_claimOf 11 = .ok (.ireturn, 1) := by decide +kernel
theorem dX9_drawNext_0 : decode cX9_drawNext 0 = .ok (.aload_n 0, 1) := by decide +kernel
theorem dX9_drawNext_1 : decode cX9_drawNext 1 = .ok (.sipush 25173, 3) := by decide +kernel
theorem dX9_drawNext_4 : decode cX9_drawNext 4 = .ok (.aload_n 0, 1) := by decide +kernel
theorem dX9_drawNext_5 : decode cX9_drawNext 5 = .ok (.getfield 15, 3) := by decide +kernel
theorem dX9_drawNext_8 : decode cX9_drawNext 8 = .ok (.imul, 1) := by decide +kernel
theorem dX9_drawNext_9 : decode cX9_drawNext 9 = .ok (.sipush 13849, 3) := by decide +kernel
theorem dX9_drawNext_12 : decode cX9_drawNext 12 = .ok (.iadd, 1) := by decide +kernel
theorem dX9_drawNext_13 : decode cX9_drawNext 13 = .ok (.ldc 55, 2) := by decide +kernel
theorem dX9_drawNext_15 : decode cX9_drawNext 15 = .ok (.iand, 1) := by decide +kernel
theorem dX9_drawNext_16 : decode cX9_drawNext 16 = .ok (.putfield 15, 3) := by decide +kernel
theorem dX9_drawNext_19 : decode cX9_drawNext 19 = .ok (.return_, 1) := by decide +kernel
theorem dX9_init_0 : decode cX9_init 0 = .ok (.aload_n 0, 1) := by decide +kernel
theorem dX9_init_1 : decode cX9_init 1 = .ok (.invokespecial 3, 3) := by decide +kernel
theorem dX9_init_4 : decode cX9_init 4 = .ok (.aload_n 0, 1) := by decide +kernel
theorem dX9_init_5 : decode cX9_init 5 = .ok (.bipush 97, 2) := by decide +kernel
theorem dX9_init_7 : decode cX9_init 7 = .ok (.putfield 9, 3) := by decide +kernel
theorem dX9_init_10 : decode cX9_init 10 = .ok (.aload_n 0, 1) := by decide +kernel
theorem dX9_init_11 : decode cX9_init 11 = .ok (.iconst 1, 1) := by decide +kernel
theorem dX9_init_12 : decode cX9_init 12 = .ok (.putfield 15, 3) := by decide +kernel
theorem dX9_init_15 : decode cX9_init 15 = .ok (.aload_n 0, 1) := by decide +kernel
theorem dX9_init_16 : decode cX9_init 16 = .ok (.bipush 10, 2) := by decide +kernel
theorem dX9_init_18 : decode cX9_init 18 = .ok (.newarray .int, 2) := by decide +kernel
theorem dX9_init_20 : decode cX9_init 20 = .ok (.putfield 18, 3) := by decide +kernel
theorem dX9_init_23 : decode cX9_init 23 = .ok (.aload_n 0, 1) := by decide +kernel
theorem dX9_init_24 : decode cX9_init 24 = .ok (.bipush 8, 2) := by decide +kernel
theorem dX9_init_26 : decode cX9_init 26 = .ok (.newarray .int, 2) := by decide +kernel
theorem dX9_init_28 : decode cX9_init 28 = .ok (.putfield 22, 3) := by decide +kernel
theorem dX9_init_31 : decode cX9_init 31 = .ok (.aload_n 0, 1) := by decide +kernel
theorem dX9_init_32 : decode cX9_init 32 = .ok (.new 25, 3) := by decide +kernel
theorem dX9_init_35 : decode cX9_init 35 = .ok (.dup, 1) := by decide +kernel
theorem dX9_init_36 : decode cX9_init 36 = .ok (.invokespecial 27, 3) := by decide +kernel
theorem dX9_init_39 : decode cX9_init 39 = .ok (.putfield 28, 3) := by decide +kernel
theorem dX9_init_42 : decode cX9_init 42 = .ok (.return_, 1) := by decide +kernel
theorem dX9_isClaim_0 : decode cX9_isClaim 0 = .ok (.iload_n 1, 1) := by decide +kernel
theorem dX9_isClaim_1 : decode cX9_isClaim 1 = .ok (.ifCond .lt 15, 3) := by decide +kernel
theorem dX9_isClaim_4 : decode cX9_isClaim 4 = .ok (.iload_n 1, 1) := by decide +kernel
theorem dX9_isClaim_5 : decode cX9_isClaim 5 = .ok (.aload_n 0, 1) := by decide +kernel
theorem dX9_isClaim_6 : decode cX9_isClaim 6 = .ok (.getfield 9, 3) := by decide +kernel
theorem dX9_isClaim_9 : decode cX9_isClaim 9 = .ok (.if_icmp .ge 7, 3) := by decide +kernel
theorem dX9_isClaim_12 : decode cX9_isClaim 12 = .ok (.iconst 1, 1) := by decide +kernel
theorem dX9_isClaim_13 : decode cX9_isClaim 13 = .ok (.goto 4, 3) := by decide +kernel
theorem dX9_isClaim_16 : decode cX9_isClaim 16 = .ok (.iconst 0, 1) := by decide +kernel
theorem dX9_isClaim_17 : decode cX9_isClaim 17 = .ok (.ireturn, 1) := by decide +kernel
theorem dX9_isWrong_0 : decode cX9_isWrong 0 = .ok (.aload_n 0, 1) := by decide +kernel
theorem dX9_isWrong_1 : decode cX9_isWrong 1 = .ok (.iload_n 1, 1) := by decide +kernel
theorem dX9_isWrong_2 : decode cX9_isWrong 2 = .ok (.invokevirtual 83, 3) := by decide +kernel
theorem dX9_isWrong_5 : decode cX9_isWrong 5 = .ok (.aload_n 0, 1) := by decide +kernel
theorem dX9_isWrong_6 : decode cX9_isWrong 6 = .ok (.iload_n 1, 1) := by decide +kernel
theorem dX9_isWrong_7 : decode cX9_isWrong 7 = .ok (.aload_n 0, 1) := by decide +kernel
theorem dX9_isWrong_8 : decode cX9_isWrong 8 = .ok (.getfield 28, 3) := by decide +kernel
theorem dX9_isWrong_11 : decode cX9_isWrong 11 = .ok (.getfield 56, 3) := by decide +kernel
theorem dX9_isWrong_14 : decode cX9_isWrong 14 = .ok (.invokevirtual 75, 3) := by decide +kernel
theorem dX9_isWrong_17 : decode cX9_isWrong 17 = .ok (.if_icmp .eq 7, 3) := by decide +kernel
theorem dX9_isWrong_20 : decode cX9_isWrong 20 = .ok (.iconst 1, 1) := by decide +kernel
theorem dX9_isWrong_21 : decode cX9_isWrong 21 = .ok (.goto 4, 3) := by decide +kernel
theorem dX9_isWrong_24 : decode cX9_isWrong 24 = .ok (.iconst 0, 1) := by decide +kernel
theorem dX9_isWrong_25 : decode cX9_isWrong 25 = .ok (.ireturn, 1) := by decide +kernel
theorem dX9_made_0 : decode cX9_made 0 = .ok (.aload_n 0, 1) := by decide +kernel
theorem dX9_made_1 : decode cX9_made 1 = .ok (.aload_n 0, 1) := by decide +kernel
theorem dX9_made_2 : decode cX9_made 2 = .ok (.getfield 28, 3) := by decide +kernel
theorem dX9_made_5 : decode cX9_made 5 = .ok (.getfield 59, 3) := by decide +kernel
theorem dX9_made_8 : decode cX9_made 8 = .ok (.iload_n 1, 1) := by decide +kernel
theorem dX9_made_9 : decode cX9_made 9 = .ok (.invokestatic 43, 3) := by decide +kernel
theorem dX9_made_12 : decode cX9_made 12 = .ok (.aload_n 0, 1) := by decide +kernel
theorem dX9_made_13 : decode cX9_made 13 = .ok (.getfield 28, 3) := by decide +kernel
theorem dX9_made_16 : decode cX9_made 16 = .ok (.getfield 62, 3) := by decide +kernel
theorem dX9_made_19 : decode cX9_made 19 = .ok (.iload_n 1, 1) := by decide +kernel
theorem dX9_made_20 : decode cX9_made 20 = .ok (.invokestatic 43, 3) := by decide +kernel
theorem dX9_made_23 : decode cX9_made 23 = .ok (.aload_n 0, 1) := by decide +kernel
theorem dX9_made_24 : decode cX9_made 24 = .ok (.getfield 28, 3) := by decide +kernel
theorem dX9_made_27 : decode cX9_made 27 = .ok (.getfield 65, 3) := by decide +kernel
theorem dX9_made_30 : decode cX9_made 30 = .ok (.iload_n 1, 1) := by decide +kernel
theorem dX9_made_31 : decode cX9_made 31 = .ok (.invokestatic 43, 3) := by decide +kernel
theorem dX9_made_34 : decode cX9_made 34 = .ok (.aload_n 2, 1) := by decide +kernel
theorem dX9_made_35 : decode cX9_made 35 = .ok (.invokevirtual 68, 3) := by decide +kernel
theorem dX9_made_38 : decode cX9_made 38 = .ok (.ireturn, 1) := by decide +kernel
theorem dX9_madeOf_0 : decode cX9_madeOf 0 = .ok (.iload_n 1, 1) := by decide +kernel
theorem dX9_madeOf_1 : decode cX9_madeOf 1 = .ok (.tableswitch 103 0 4 #[35, 44, 51, 67, 85], 35) := by decide +kernel
theorem dX9_madeOf_36 : decode cX9_madeOf 36 = .ok (.aload_n 0, 1) := by decide +kernel
theorem dX9_madeOf_37 : decode cX9_madeOf 37 = .ok (.getfield 18, 3) := by decide +kernel
theorem dX9_madeOf_40 : decode cX9_madeOf 40 = .ok (.iload_n 2, 1) := by decide +kernel
theorem dX9_madeOf_41 : decode cX9_madeOf 41 = .ok (.invokestatic 43, 3) := by decide +kernel
theorem dX9_madeOf_44 : decode cX9_madeOf 44 = .ok (.ireturn, 1) := by decide +kernel
theorem dX9_madeOf_45 : decode cX9_madeOf 45 = .ok (.aload 4, 2) := by decide +kernel
theorem dX9_madeOf_47 : decode cX9_madeOf 47 = .ok (.iload_n 2, 1) := by decide +kernel
theorem dX9_madeOf_48 : decode cX9_madeOf 48 = .ok (.invokestatic 43, 3) := by decide +kernel
theorem dX9_madeOf_51 : decode cX9_madeOf 51 = .ok (.ireturn, 1) := by decide +kernel
theorem dX9_madeOf_52 : decode cX9_madeOf 52 = .ok (.aload_n 0, 1) := by decide +kernel
theorem dX9_madeOf_53 : decode cX9_madeOf 53 = .ok (.aload_n 0, 1) := by decide +kernel
theorem dX9_madeOf_54 : decode cX9_madeOf 54 = .ok (.getfield 9, 3) := by decide +kernel
theorem dX9_madeOf_57 : decode cX9_madeOf 57 = .ok (.aload 4, 2) := by decide +kernel
theorem dX9_madeOf_59 : decode cX9_madeOf 59 = .ok (.iload_n 2, 1) := by decide +kernel
theorem dX9_madeOf_60 : decode cX9_madeOf 60 = .ok (.invokestatic 43, 3) := by decide +kernel
theorem dX9_madeOf_63 : decode cX9_madeOf 63 = .ok (.isub, 1) := by decide +kernel
theorem dX9_madeOf_64 : decode cX9_madeOf 64 = .ok (.invokevirtual 47, 3) := by decide +kernel
theorem dX9_madeOf_67 : decode cX9_madeOf 67 = .ok (.ireturn, 1) := by decide +kernel
theorem dX9_madeOf_68 : decode cX9_madeOf 68 = .ok (.aload_n 0, 1) := by decide +kernel
theorem dX9_madeOf_69 : decode cX9_madeOf 69 = .ok (.aload 4, 2) := by decide +kernel
theorem dX9_madeOf_71 : decode cX9_madeOf 71 = .ok (.iload_n 2, 1) := by decide +kernel
theorem dX9_madeOf_72 : decode cX9_madeOf 72 = .ok (.invokestatic 43, 3) := by decide +kernel
theorem dX9_madeOf_75 : decode cX9_madeOf 75 = .ok (.aload 4, 2) := by decide +kernel
theorem dX9_madeOf_77 : decode cX9_madeOf 77 = .ok (.iload_n 3, 1) := by decide +kernel
theorem dX9_madeOf_78 : decode cX9_madeOf 78 = .ok (.invokestatic 43, 3) := by decide +kernel
theorem dX9_madeOf_81 : decode cX9_madeOf 81 = .ok (.iadd, 1) := by decide +kernel
theorem dX9_madeOf_82 : decode cX9_madeOf 82 = .ok (.invokevirtual 47, 3) := by decide +kernel
theorem dX9_madeOf_85 : decode cX9_madeOf 85 = .ok (.ireturn, 1) := by decide +kernel
theorem dX9_madeOf_86 : decode cX9_madeOf 86 = .ok (.aload_n 0, 1) := by decide +kernel
theorem dX9_madeOf_87 : decode cX9_madeOf 87 = .ok (.aload 4, 2) := by decide +kernel
theorem dX9_madeOf_89 : decode cX9_madeOf 89 = .ok (.iload_n 2, 1) := by decide +kernel
theorem dX9_madeOf_90 : decode cX9_madeOf 90 = .ok (.invokestatic 43, 3) := by decide +kernel
theorem dX9_madeOf_93 : decode cX9_madeOf 93 = .ok (.aload 4, 2) := by decide +kernel
theorem dX9_madeOf_95 : decode cX9_madeOf 95 = .ok (.iload_n 3, 1) := by decide +kernel
theorem dX9_madeOf_96 : decode cX9_madeOf 96 = .ok (.invokestatic 43, 3) := by decide +kernel
theorem dX9_madeOf_99 : decode cX9_madeOf 99 = .ok (.imul, 1) := by decide +kernel
theorem dX9_madeOf_100 : decode cX9_madeOf 100 = .ok (.invokevirtual 47, 3) := by decide +kernel
theorem dX9_madeOf_103 : decode cX9_madeOf 103 = .ok (.ireturn, 1) := by decide +kernel
theorem dX9_madeOf_104 : decode cX9_madeOf 104 = .ok (.iconst 0, 1) := by decide +kernel
theorem dX9_madeOf_105 : decode cX9_madeOf 105 = .ok (.ireturn, 1) := by decide +kernel
theorem dX9_modulo_0 : decode cX9_modulo 0 = .ok (.aload_n 0, 1) := by decide +kernel
theorem dX9_modulo_1 : decode cX9_modulo 1 = .ok (.getfield 9, 3) := by decide +kernel
theorem dX9_modulo_4 : decode cX9_modulo 4 = .ok (.ifCond .le 12, 3) := by decide +kernel
theorem dX9_modulo_7 : decode cX9_modulo 7 = .ok (.iload_n 1, 1) := by decide +kernel
theorem dX9_modulo_8 : decode cX9_modulo 8 = .ok (.aload_n 0, 1) := by decide +kernel
theorem dX9_modulo_9 : decode cX9_modulo 9 = .ok (.getfield 9, 3) := by decide +kernel
theorem dX9_modulo_12 : decode cX9_modulo 12 = .ok (.irem, 1) := by decide +kernel
theorem dX9_modulo_13 : decode cX9_modulo 13 = .ok (.goto 4, 3) := by decide +kernel
theorem dX9_modulo_16 : decode cX9_modulo 16 = .ok (.iconst 0, 1) := by decide +kernel
theorem dX9_modulo_17 : decode cX9_modulo 17 = .ok (.ireturn, 1) := by decide +kernel
theorem dX9_reckonBy_0 : decode cX9_reckonBy 0 = .ok (.aload_n 0, 1) := by decide +kernel
theorem dX9_reckonBy_1 : decode cX9_reckonBy 1 = .ok (.iload_n 1, 1) := by decide +kernel
theorem dX9_reckonBy_2 : decode cX9_reckonBy 2 = .ok (.putfield 9, 3) := by decide +kernel
theorem dX9_reckonBy_5 : decode cX9_reckonBy 5 = .ok (.aload_n 0, 1) := by decide +kernel
theorem dX9_reckonBy_6 : decode cX9_reckonBy 6 = .ok (.getfield 28, 3) := by decide +kernel
theorem dX9_reckonBy_9 : decode cX9_reckonBy 9 = .ok (.invokevirtual 40, 3) := by decide +kernel
theorem dX9_reckonBy_12 : decode cX9_reckonBy 12 = .ok (.iconst 0, 1) := by decide +kernel
theorem dX9_reckonBy_13 : decode cX9_reckonBy 13 = .ok (.istore_n 2, 1) := by decide +kernel
theorem dX9_reckonBy_14 : decode cX9_reckonBy 14 = .ok (.iload_n 2, 1) := by decide +kernel
theorem dX9_reckonBy_15 : decode cX9_reckonBy 15 = .ok (.bipush 10, 2) := by decide +kernel
theorem dX9_reckonBy_17 : decode cX9_reckonBy 17 = .ok (.if_icmp .ge 29, 3) := by decide +kernel
theorem dX9_reckonBy_20 : decode cX9_reckonBy 20 = .ok (.aload_n 0, 1) := by decide +kernel
theorem dX9_reckonBy_21 : decode cX9_reckonBy 21 = .ok (.getfield 18, 3) := by decide +kernel
theorem dX9_reckonBy_24 : decode cX9_reckonBy 24 = .ok (.iload_n 2, 1) := by decide +kernel
theorem dX9_reckonBy_25 : decode cX9_reckonBy 25 = .ok (.aload_n 0, 1) := by decide +kernel
theorem dX9_reckonBy_26 : decode cX9_reckonBy 26 = .ok (.aload_n 0, 1) := by decide +kernel
theorem dX9_reckonBy_27 : decode cX9_reckonBy 27 = .ok (.getfield 18, 3) := by decide +kernel
theorem dX9_reckonBy_30 : decode cX9_reckonBy 30 = .ok (.iload_n 2, 1) := by decide +kernel
theorem dX9_reckonBy_31 : decode cX9_reckonBy 31 = .ok (.invokestatic 43, 3) := by decide +kernel
theorem dX9_reckonBy_34 : decode cX9_reckonBy 34 = .ok (.invokevirtual 47, 3) := by decide +kernel
theorem dX9_reckonBy_37 : decode cX9_reckonBy 37 = .ok (.invokestatic 51, 3) := by decide +kernel
theorem dX9_reckonBy_40 : decode cX9_reckonBy 40 = .ok (.iinc 2 1, 3) := by decide +kernel
theorem dX9_reckonBy_43 : decode cX9_reckonBy 43 = .ok (.goto (-29), 3) := by decide +kernel
theorem dX9_reckonBy_46 : decode cX9_reckonBy 46 = .ok (.return_, 1) := by decide +kernel
theorem dX9_slipIn_0 : decode cX9_slipIn 0 = .ok (.aload_n 3, 1) := by decide +kernel
theorem dX9_slipIn_1 : decode cX9_slipIn 1 = .ok (.iload_n 1, 1) := by decide +kernel
theorem dX9_slipIn_2 : decode cX9_slipIn 2 = .ok (.iload_n 2, 1) := by decide +kernel
theorem dX9_slipIn_3 : decode cX9_slipIn 3 = .ok (.invokestatic 51, 3) := by decide +kernel
theorem dX9_slipIn_6 : decode cX9_slipIn 6 = .ok (.aload_n 0, 1) := by decide +kernel
theorem dX9_slipIn_7 : decode cX9_slipIn 7 = .ok (.iload_n 1, 1) := by decide +kernel
theorem dX9_slipIn_8 : decode cX9_slipIn 8 = .ok (.iconst 1, 1) := by decide +kernel
theorem dX9_slipIn_9 : decode cX9_slipIn 9 = .ok (.iadd, 1) := by decide +kernel
theorem dX9_slipIn_10 : decode cX9_slipIn 10 = .ok (.aload_n 3, 1) := by decide +kernel
theorem dX9_slipIn_11 : decode cX9_slipIn 11 = .ok (.invokevirtual 79, 3) := by decide +kernel
theorem dX9_slipIn_14 : decode cX9_slipIn 14 = .ok (.return_, 1) := by decide +kernel
theorem dX9_workOn_0 : decode cX9_workOn 0 = .ok (.iload_n 1, 1) := by decide +kernel
theorem dX9_workOn_1 : decode cX9_workOn 1 = .ok (.istore_n 3, 1) := by decide +kernel
theorem dX9_workOn_2 : decode cX9_workOn 2 = .ok (.iload_n 3, 1) := by decide +kernel
theorem dX9_workOn_3 : decode cX9_workOn 3 = .ok (.aload_n 0, 1) := by decide +kernel
theorem dX9_workOn_4 : decode cX9_workOn 4 = .ok (.getfield 28, 3) := by decide +kernel
theorem dX9_workOn_7 : decode cX9_workOn 7 = .ok (.getfield 72, 3) := by decide +kernel
theorem dX9_workOn_10 : decode cX9_workOn 10 = .ok (.if_icmp .ge 20, 3) := by decide +kernel
theorem dX9_workOn_13 : decode cX9_workOn 13 = .ok (.aload_n 2, 1) := by decide +kernel
theorem dX9_workOn_14 : decode cX9_workOn 14 = .ok (.iload_n 3, 1) := by decide +kernel
theorem dX9_workOn_15 : decode cX9_workOn 15 = .ok (.aload_n 0, 1) := by decide +kernel
theorem dX9_workOn_16 : decode cX9_workOn 16 = .ok (.iload_n 3, 1) := by decide +kernel
theorem dX9_workOn_17 : decode cX9_workOn 17 = .ok (.aload_n 2, 1) := by decide +kernel
theorem dX9_workOn_18 : decode cX9_workOn 18 = .ok (.invokevirtual 75, 3) := by decide +kernel
theorem dX9_workOn_21 : decode cX9_workOn 21 = .ok (.invokestatic 51, 3) := by decide +kernel
theorem dX9_workOn_24 : decode cX9_workOn 24 = .ok (.iinc 3 1, 3) := by decide +kernel
theorem dX9_workOn_27 : decode cX9_workOn 27 = .ok (.goto (-25), 3) := by decide +kernel
theorem dX9_workOn_30 : decode cX9_workOn 30 = .ok (.return_, 1) := by decide +kernel
theorem dX9_wrongLines_0 : decode cX9_wrongLines 0 = .ok (.iconst 0, 1) := by decide +kernel
theorem dX9_wrongLines_1 : decode cX9_wrongLines 1 = .ok (.istore_n 1, 1) := by decide +kernel
theorem dX9_wrongLines_2 : decode cX9_wrongLines 2 = .ok (.iconst 0, 1) := by decide +kernel
theorem dX9_wrongLines_3 : decode cX9_wrongLines 3 = .ok (.istore_n 2, 1) := by decide +kernel
theorem dX9_wrongLines_4 : decode cX9_wrongLines 4 = .ok (.iload_n 2, 1) := by decide +kernel
theorem dX9_wrongLines_5 : decode cX9_wrongLines 5 = .ok (.aload_n 0, 1) := by decide +kernel
theorem dX9_wrongLines_6 : decode cX9_wrongLines 6 = .ok (.getfield 28, 3) := by decide +kernel
theorem dX9_wrongLines_9 : decode cX9_wrongLines 9 = .ok (.getfield 72, 3) := by decide +kernel
theorem dX9_wrongLines_12 : decode cX9_wrongLines 12 = .ok (.if_icmp .ge 24, 3) := by decide +kernel
theorem dX9_wrongLines_15 : decode cX9_wrongLines 15 = .ok (.aload_n 0, 1) := by decide +kernel
theorem dX9_wrongLines_16 : decode cX9_wrongLines 16 = .ok (.iload_n 2, 1) := by decide +kernel
theorem dX9_wrongLines_17 : decode cX9_wrongLines 17 = .ok (.invokevirtual 86, 3) := by decide +kernel
theorem dX9_wrongLines_20 : decode cX9_wrongLines 20 = .ok (.ifCond .eq 10, 3) := by decide +kernel
theorem dX9_wrongLines_23 : decode cX9_wrongLines 23 = .ok (.iload_n 1, 1) := by decide +kernel
theorem dX9_wrongLines_24 : decode cX9_wrongLines 24 = .ok (.iload_n 2, 1) := by decide +kernel
theorem dX9_wrongLines_25 : decode cX9_wrongLines 25 = .ok (.invokestatic 90, 3) := by decide +kernel
theorem dX9_wrongLines_28 : decode cX9_wrongLines 28 = .ok (.ior, 1) := by decide +kernel
theorem dX9_wrongLines_29 : decode cX9_wrongLines 29 = .ok (.istore_n 1, 1) := by decide +kernel
theorem dX9_wrongLines_30 : decode cX9_wrongLines 30 = .ok (.iinc 2 1, 3) := by decide +kernel
theorem dX9_wrongLines_33 : decode cX9_wrongLines 33 = .ok (.goto (-29), 3) := by decide +kernel
theorem dX9_wrongLines_36 : decode cX9_wrongLines 36 = .ok (.iload_n 1, 1) := by decide +kernel
theorem dX9_wrongLines_37 : decode cX9_wrongLines 37 = .ok (.ireturn, 1) := by decide +kernel
